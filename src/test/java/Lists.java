/** Lists that tests of the bee share; a test extends this to call it by the plain names. */
abstract class Lists {
  /**
   * A tongue t of ease 0; for each number in hard a root of one letter, r0, r1 and so on, and a word
   * of it, w0, w1 and so on, that is as hard; and spellers s0, s1 and so on, who know t so much.
   */
  static String list(int[] hard, int[] knows, int passes) {
    StringBuilder text = new StringBuilder("tongue t ease 0;");
    for (int i = 0; i < hard.length; i++) {
      text.append("root r").append(i).append(" of t letters 1 hard ").append(hard[i]).append(';');
      text.append("word w").append(i).append(" from r").append(i).append(';');
    }
    for (int i = 0; i < knows.length; i++) {
      text.append("speller s").append(i).append(" passes ").append(passes);
      text.append(" knows t ").append(knows[i]).append(';');
    }
    return text.toString();
  }

  static int[] of(int... numbers) {
    return numbers;
  }
}
