/** Promises 7 to 13: root, word, part, speller, knows, heard, strong. */
public final class WordsAndSpellersTest {
  private static final Check CHECK = new Check("WordsAndSpellersTest");
  private static final String LIST =
      "tongue la ease 1;tongue lb ease 2;"
      + "root ra of lb letters 4 hard 2;root rb of la letters 3 hard 9;root rc of la letters 9 hard 0;"
      + "root rd of la letters 1 hard 1;"
      + "word wa from ra rb;word wb from rb rb ra;word wc from rc;"
      + "speller sa passes 1 knows la 3 knows lb 4;speller sb passes 2 knows lb 20;"
      + "round ro toll 0 laps 2 words wc wa;";
  private static final int[] OUTSIDE = {-1, Integer.MIN_VALUE, Integer.MAX_VALUE, 1 << 28, 1 << 30};

  public static void main(String[] args) {
    roots();
    words();
    spellers();
    hearing();
    strengths();
    refusals();
    withoutAnything();
    CHECK.end();
  }

  private static void row(String what, int[] got, int... due) {
    for (int i = 0; i < due.length; i++) {
      CHECK.same(what + ", the number " + i, got[i], due[i]);
    }
  }

  private static int[] root(BeeTurnpike bee, int root) {
    int[] row = new int[5];
    for (int what = 0; what < 5; what++) {
      row[what] = bee.root(root, what);
    }
    return row;
  }

  private static int[] word(BeeTurnpike bee, int word) {
    int[] row = new int[5];
    for (int what = 0; what < 5; what++) {
      row[what] = bee.word(word, what);
    }
    return row;
  }

  private static int[] speller(BeeTurnpike bee, int speller) {
    int[] row = new int[9];
    for (int what = 0; what < 9; what++) {
      row[what] = bee.speller(speller, what);
    }
    return row;
  }

  private static void roots() {
    BeeTurnpike bee = Check.taught(LIST);
    row("root 0", root(bee, 0), 1, 4, 2, 2, 2);
    // The root comes twice in a word, which is one word.
    row("root 1", root(bee, 1), 0, 3, 9, 1, 2);
    row("root 2", root(bee, 2), 0, 9, 0, 1, 1);
    row("root 3", root(bee, 3), 0, 1, 1, 1, 0);
  }

  private static void words() {
    BeeTurnpike bee = Check.taught(LIST);
    // A fourth of 7 letters is 1, of 10 it is 2, of 9 it is 2.
    row("word 0", word(bee, 0), 2, 7, 12, 0, 0);
    row("word 1", word(bee, 1), 3, 10, 22, 0, 0);
    row("word 2", word(bee, 2), 1, 9, 2, 0, 0);
    int[][] parts = {{0, 1}, {1, 1, 0}, {2}};
    for (int word = 0; word < parts.length; word++) {
      for (int place = 0; place < parts[word].length; place++) {
        CHECK.same("part(" + word + ", " + place + ")", bee.part(word, place), parts[word][place]);
      }
    }
    bee.go(1);
    row("word 2, spelled rightly", word(bee, 2), 1, 9, 2, 1, 1);
    bee.go(1);
    row("word 0, spelled wrongly", word(bee, 0), 2, 7, 12, 1, 0);
    bee.go(2);
    row("word 2, spelled twice", word(bee, 2), 1, 9, 2, 2, 2);
    row("word 0, spelled twice", word(bee, 0), 2, 7, 12, 2, 0);
  }

  private static void spellers() {
    BeeTurnpike bee = Check.taught(LIST);
    row("speller 0", speller(bee, 0), 1, 0, 0, 1, 1, 0, 0, 0, 0);
    row("speller 1", speller(bee, 1), 1, 0, 0, 2, 1, 0, 0, 0, 1);
    bee.go(2);
    row("speller 0, right", speller(bee, 0), 1, 1, 0, 1, 1, 0, 1, 0, 0);
    row("speller 1, wrong", speller(bee, 1), 1, 0, 1, 2, 1, 0, 0, 1, 1);
    bee.award(1, 2);
    CHECK.same("the rank of more points", bee.speller(1, 8), 0);
    CHECK.same("the rank of fewer points", bee.speller(0, 8), 1);
    bee.hint();
    row("speller 0, with a hint", speller(bee, 0), 1, 0, 0, 1, 1, 1, 1, 0, 1);
    bee.go(2);
    // The second one goes out by her second miss: behind who is in, with more points, too.
    row("speller 0 at last", speller(bee, 0), 1, 1, 0, 1, 1, 1, 2, 0, 0);
    row("speller 1 at last", speller(bee, 1), 0, 2, 2, 2, 1, 0, 0, 2, 1);
    ranks();
  }

  private static void ranks() {
    BeeTurnpike bee = Check.taught("tongue l ease 0;root r of l letters 1 hard 9;word w from r;"
        + "speller a passes 0;speller b passes 0 knows l 9;speller c passes 0;speller d passes 0 knows l 9;"
        + "round o toll 0 laps 2 words w;");
    bee.award(2, 5);
    bee.award(0, 4);
    int[] before = {1, 2, 0, 3};
    for (int s = 0; s < 4; s++) {
      CHECK.same("rank " + s + " at first", bee.speller(s, 8), before[s]);
    }
    bee.go(8);
    // b and d have twice 3 points and are in; a, with 4, and c, with 5, are out.
    int[] behind = {3, 0, 2, 1};
    for (int s = 0; s < 4; s++) {
      CHECK.same("rank " + s + " at last", bee.speller(s, 8), behind[s]);
    }
  }

  private static void hearing() {
    BeeTurnpike bee = Check.taught("tongue l ease 3;tongue m ease 9;"
        + "root r of l letters 1 hard 0;root q of m letters 1 hard 0;root p of l letters 1 hard 0;"
        + "word w from r q r;speller a passes 0;speller b passes 0;round o toll 0 laps 9 words w;");
    CHECK.same("strong at first", bee.strong(0, 0), 3);
    for (int lap = 1; lap <= 4; lap++) {
      bee.go(2);
      CHECK.same("heard(0, 0)", bee.heard(0, 0), 2 * lap);
      CHECK.same("heard(0, 1)", bee.heard(0, 1), lap);
      CHECK.same("heard(1, 0)", bee.heard(1, 0), 2 * lap);
      CHECK.same("heard(0, 2)", bee.heard(0, 2), 0);
      // At most 5 hearings count, though more are told.
      CHECK.same("strong in the lap " + lap, bee.strong(0, 0), 3 + Math.min(5, 2 * lap));
    }
  }

  private static void strengths() {
    BeeTurnpike bee = Check.taught(LIST);
    int[][] due = {{4, 4, 4}, {1, 1, 1}};
    for (int s = 0; s < 2; s++) {
      for (int w = 0; w < 3; w++) {
        CHECK.same("strong(" + s + ", " + w + ")", bee.strong(s, w), due[s][w]);
      }
    }
    CHECK.same("knows(0, 0)", bee.knows(0, 0), 3);
    CHECK.same("knows(0, 1)", bee.knows(0, 1), 4);
    CHECK.same("knows(1, 0)", bee.knows(1, 0), 0);
    CHECK.same("knows(1, 1)", bee.knows(1, 1), 20);
    // A hint counts for her whose turn it is, and the word on turn alone, and in this turn alone.
    bee.award(0, 5);
    bee.hint();
    CHECK.same("strong with a hint", bee.strong(0, 2), 7);
    CHECK.same("strong at another word", bee.strong(0, 0), 4);
    CHECK.same("strong of the other one", bee.strong(1, 2), 1);
    bee.hint();
    CHECK.same("strong with two hints", bee.strong(0, 2), 10);
    bee.go(1);
    CHECK.same("strong behind the turn, one root heard", bee.strong(0, 2), 5);
    CHECK.same("strong of the one on turn now", bee.strong(1, 0), 1);
    bee.go(60);
    CHECK.same("strong as the bee is over", bee.strong(0, 2), 6);
  }

  private static void refusals() {
    BeeTurnpike bee = Check.taught(LIST);
    Class<IndexOutOfBoundsException> due = IndexOutOfBoundsException.class;
    for (int x : OUTSIDE) {
      CHECK.refused(bee, "root(" + x + ", 0)", due, () -> bee.root(x, 0));
      CHECK.refused(bee, "root(0, " + x + ")", due, () -> bee.root(0, x));
      CHECK.refused(bee, "word(" + x + ", 0)", due, () -> bee.word(x, 0));
      CHECK.refused(bee, "word(0, " + x + ")", due, () -> bee.word(0, x));
      CHECK.refused(bee, "part(" + x + ", 0)", due, () -> bee.part(x, 0));
      CHECK.refused(bee, "part(0, " + x + ")", due, () -> bee.part(0, x));
      CHECK.refused(bee, "speller(" + x + ", 0)", due, () -> bee.speller(x, 0));
      CHECK.refused(bee, "speller(0, " + x + ")", due, () -> bee.speller(0, x));
      CHECK.refused(bee, "knows(" + x + ", 0)", due, () -> bee.knows(x, 0));
      CHECK.refused(bee, "knows(0, " + x + ")", due, () -> bee.knows(0, x));
      CHECK.refused(bee, "heard(" + x + ", 0)", due, () -> bee.heard(x, 0));
      CHECK.refused(bee, "heard(0, " + x + ")", due, () -> bee.heard(0, x));
      CHECK.refused(bee, "strong(" + x + ", 0)", due, () -> bee.strong(x, 0));
      CHECK.refused(bee, "strong(0, " + x + ")", due, () -> bee.strong(0, x));
    }
    // One behind the last.
    CHECK.refused(bee, "root(4, 0)", due, () -> bee.root(4, 0));
    CHECK.refused(bee, "root(0, 5)", due, () -> bee.root(0, 5));
    CHECK.refused(bee, "word(3, 0)", due, () -> bee.word(3, 0));
    CHECK.refused(bee, "word(0, 5)", due, () -> bee.word(0, 5));
    CHECK.refused(bee, "part(3, 0)", due, () -> bee.part(3, 0));
    CHECK.refused(bee, "part(0, 2)", due, () -> bee.part(0, 2));
    CHECK.refused(bee, "part(1, 3)", due, () -> bee.part(1, 3));
    CHECK.refused(bee, "speller(2, 0)", due, () -> bee.speller(2, 0));
    CHECK.refused(bee, "speller(0, 9)", due, () -> bee.speller(0, 9));
    CHECK.refused(bee, "knows(2, 0)", due, () -> bee.knows(2, 0));
    CHECK.refused(bee, "knows(0, 2)", due, () -> bee.knows(0, 2));
    CHECK.refused(bee, "heard(2, 0)", due, () -> bee.heard(2, 0));
    CHECK.refused(bee, "heard(0, 4)", due, () -> bee.heard(0, 4));
    CHECK.refused(bee, "strong(2, 0)", due, () -> bee.strong(2, 0));
    CHECK.refused(bee, "strong(0, 3)", due, () -> bee.strong(0, 3));
  }

  private static void withoutAnything() {
    BeeTurnpike bee = Check.taught(LIST);
    bee.teach();
    Class<IndexOutOfBoundsException> due = IndexOutOfBoundsException.class;
    CHECK.refused(bee, "root(0, 0) of none", due, () -> bee.root(0, 0));
    CHECK.refused(bee, "word(0, 0) of none", due, () -> bee.word(0, 0));
    CHECK.refused(bee, "part(0, 0) of none", due, () -> bee.part(0, 0));
    CHECK.refused(bee, "speller(0, 0) of none", due, () -> bee.speller(0, 0));
    CHECK.refused(bee, "knows(0, 0) of none", due, () -> bee.knows(0, 0));
    CHECK.refused(bee, "heard(0, 0) of none", due, () -> bee.heard(0, 0));
    CHECK.refused(bee, "strong(0, 0) of none", due, () -> bee.strong(0, 0));
  }
}
