/** Promises 14 to 17: hint, skip, learn, award. */
public final class ByHandTest {
  private static final Check CHECK = new Check("ByHandTest");
  // One word that is hard 4: two letters, hard 4.
  private static final String LIST =
      "tongue la ease 0;tongue lb ease 0;root ra of la letters 2 hard 4;word wa from ra;word wb from ra ra;"
      + "speller sa passes 1;speller sb passes 2 knows la 18 knows lb 20;speller sc passes 0;"
      + "round ro toll 0 laps 3 words wa wb;";

  public static void main(String[] args) {
    hint();
    skip();
    skipAtTheEnd();
    learn();
    award();
    CHECK.end();
  }

  private static void hint() {
    BeeTurnpike bee = Check.taught(LIST);
    CHECK.refused(bee, "hint() without a point", IllegalStateException.class, () -> bee.hint());
    bee.award(0, 4);
    CHECK.same("hint()", bee.hint(), 3);
    CHECK.same("hints of hers", bee.speller(0, 5), 1);
    CHECK.same("hints in all", bee.count(13), 1);
    CHECK.same("turns so far", bee.count(0), 0);
    CHECK.same("strong by it", bee.strong(0, 0), 3);
    CHECK.same("hint() again", bee.hint(), 2);
    CHECK.refused(bee, "hint(), the third one", IllegalStateException.class, () -> bee.hint());
    // Six by two hints, hard four: right, 1 point and a fourth of 4 more.
    bee.go(1);
    CHECK.same("points behind the turn", bee.speller(0, 1), 4);
    CHECK.refused(bee, "hint() of the next one, without a point", IllegalStateException.class, () -> bee.hint());
    bee.award(1, 1);
    CHECK.same("hint() of the last point", bee.hint(), 0);
    CHECK.refused(bee, "hint() without a further point", IllegalStateException.class, () -> bee.hint());
    CHECK.same("hints in all at last", bee.count(13), 3);
    // Hints by hand count among the two of orders.
    BeeTurnpike ordered = Check.taught(LIST + "hint sa when points sa > 0;hint sa when points sa > 0;");
    ordered.award(0, 9);
    ordered.hint();
    ordered.go(1);
    CHECK.same("hints by hand and by orders", ordered.count(13), 2);
    BeeTurnpike over = Check.taught("");
    CHECK.refused(over, "hint() as the bee is over", IllegalStateException.class, () -> over.hint());
  }

  private static void skip() {
    BeeTurnpike bee = Check.taught(LIST + "pass sa when turn >= 0;hint sa when turn >= 0;");
    bee.award(0, 3);
    bee.hint();
    CHECK.same("skip()", bee.skip(), 1);
    CHECK.same("turns so far", bee.count(0), 1);
    CHECK.same("passes left", bee.speller(0, 3), 0);
    CHECK.same("passes in all", bee.count(14), 1);
    CHECK.same("hints in all", bee.count(13), 1);
    CHECK.same("words spelled", bee.count(11) + bee.count(12), 0);
    CHECK.same("the word on turn", bee.count(9), 0);
    CHECK.same("strong of the next one", bee.strong(1, 0), 18);
    bee.go(1);
    CHECK.same("the word behind the one that was spelled", bee.count(9), 1);
    CHECK.refused(bee, "skip() without a pass", IllegalStateException.class, () -> bee.skip());
    bee.go(1);
    CHECK.same("who is on turn in the second lap", bee.count(8), 0);
    CHECK.refused(bee, "skip() without a further pass", IllegalStateException.class, () -> bee.skip());
    BeeTurnpike over = Check.taught("");
    CHECK.refused(over, "skip() as the bee is over", IllegalStateException.class, () -> over.skip());
  }

  private static void skipAtTheEnd() {
    BeeTurnpike bee = Check.taught("tongue la ease 0;root ra of la letters 2 hard 4;word wa from ra;"
        + "speller sa passes 1;speller sb passes 3;round ro toll 0 laps 2 words wa;");
    CHECK.same("skip() of the first one", bee.skip(), 1);
    CHECK.same("skip() of the last one", bee.skip(), 0);
    CHECK.same("turns", bee.count(0), 2);
    bee.go(1);
    CHECK.same("skip() at the end of all laps", bee.skip(), -1);
    CHECK.same("the round then", bee.count(7), -1);
    CHECK.refused(bee, "skip() then", IllegalStateException.class, () -> bee.skip());
  }

  private static void learn() {
    BeeTurnpike bee = Check.taught(LIST);
    CHECK.same("learn(0, 0, 1)", bee.learn(0, 0, 1), 1);
    CHECK.same("learn(0, 0, 9)", bee.learn(0, 0, 9), 10);
    CHECK.same("knows(0, 0)", bee.knows(0, 0), 10);
    CHECK.same("knows(0, 1)", bee.knows(0, 1), 0);
    CHECK.same("strong(0, 0)", bee.strong(0, 0), 10);
    CHECK.same("learn(1, 0, 2)", bee.learn(1, 0, 2), 20);
    CHECK.same("learn(1, 0, 1)", bee.learn(1, 0, 1), 20);
    CHECK.same("learn(1, 1, 9)", bee.learn(1, 1, 9), 20);
    Class<IndexOutOfBoundsException> none = IndexOutOfBoundsException.class;
    Class<IllegalArgumentException> wrong = IllegalArgumentException.class;
    for (int x : new int[] {-1, Integer.MIN_VALUE, Integer.MAX_VALUE}) {
      CHECK.refused(bee, "learn(" + x + ", 0, 1)", none, () -> bee.learn(x, 0, 1));
      CHECK.refused(bee, "learn(0, " + x + ", 1)", none, () -> bee.learn(0, x, 1));
      CHECK.refused(bee, "learn(0, 0, " + x + ")", wrong, () -> bee.learn(0, 0, x));
      CHECK.refused(bee, "learn(" + x + ", 0, 0)", none, () -> bee.learn(x, 0, 0));
      CHECK.refused(bee, "learn(0, " + x + ", 10)", none, () -> bee.learn(0, x, 10));
    }
    CHECK.refused(bee, "learn(3, 0, 1)", none, () -> bee.learn(3, 0, 1));
    CHECK.refused(bee, "learn(0, 2, 1)", none, () -> bee.learn(0, 2, 1));
    CHECK.refused(bee, "learn(0, 0, 0)", wrong, () -> bee.learn(0, 0, 0));
    CHECK.refused(bee, "learn(0, 0, 10)", wrong, () -> bee.learn(0, 0, 10));
    // What was learned is gone with the next list.
    Check.teach(bee, LIST);
    CHECK.same("knows(0, 0) of the list anew", bee.knows(0, 0), 0);
    BeeTurnpike over = Check.taught("tongue la ease 0;speller sa passes 0;");
    CHECK.same("learn() as the bee is over", over.learn(0, 0, 3), 3);
  }

  private static void award() {
    BeeTurnpike bee = Check.taught(LIST);
    CHECK.same("award(0, 1)", bee.award(0, 1), 1);
    CHECK.same("award(0, 20)", bee.award(0, 20), 21);
    CHECK.same("award(2, 7)", bee.award(2, 7), 7);
    CHECK.same("points of 0", bee.speller(0, 1), 21);
    CHECK.same("points of 1", bee.speller(1, 1), 0);
    CHECK.same("mean()", bee.mean(), 28.0 / 3.0);
    Class<IndexOutOfBoundsException> none = IndexOutOfBoundsException.class;
    Class<IllegalArgumentException> wrong = IllegalArgumentException.class;
    for (int x : new int[] {-1, Integer.MIN_VALUE, Integer.MAX_VALUE}) {
      CHECK.refused(bee, "award(" + x + ", 1)", none, () -> bee.award(x, 1));
      CHECK.refused(bee, "award(" + x + ", 0)", none, () -> bee.award(x, 0));
      CHECK.refused(bee, "award(0, " + x + ")", wrong, () -> bee.award(0, x));
    }
    CHECK.refused(bee, "award(3, 1)", none, () -> bee.award(3, 1));
    CHECK.refused(bee, "award(0, 0)", wrong, () -> bee.award(0, 0));
    CHECK.refused(bee, "award(0, 21)", wrong, () -> bee.award(0, 21));
    // Who is out gets points, too.
    BeeTurnpike out = Check.taught("tongue la ease 0;root ra of la letters 2 hard 4;word wa from ra;"
        + "speller sa passes 0;speller sb passes 0 knows la 9;round ro toll 1 laps 1 words wa;");
    out.go(2);
    CHECK.same("who is out", out.speller(0, 0), 0);
    CHECK.same("award() of her", out.award(0, 20), 20);
    CHECK.same("her rank", out.speller(0, 8), 1);
  }
}
