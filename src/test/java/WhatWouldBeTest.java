/** Promises 19 to 24: foresee, until, winner, advise, mean, digest. */
public final class WhatWouldBeTest {
  private static final Check CHECK = new Check("WhatWouldBeTest");
  private static final String LIST =
      "tongue la ease 0;root ra of la letters 1 hard 8;root rb of la letters 1 hard 3;"
      + "word wa from ra;word wb from rb;"
      + "speller sa passes 1 knows la 2;speller sb passes 0 knows la 9;speller sc passes 1 knows la 6;"
      + "round ro toll 2 laps 2 words wa wb wa;round rp toll 0 laps 1 words wb wa;"
      + "appeal sc when in sc;hint sb when turn = 4;pass sc when turn = 5;";

  public static void main(String[] args) {
    foresee();
    foreseeRefuses();
    until();
    winner();
    adviseNothing();
    adviseHint();
    advisePass();
    adviseCannot();
    mean();
    digest();
    nothingIsChanged();
    CHECK.end();
  }

  private static void foresee() {
    // What the document asks, is what count() tells behind as many turns of go().
    for (int turns = 1; turns <= 60; turns++) {
      BeeTurnpike bee = Check.taught(LIST);
      BeeTurnpike gone = Check.taught(LIST);
      gone.go(turns);
      for (int what = 10; what <= 16; what++) {
        CHECK.same("foresee(" + turns + ", " + what + ")", bee.foresee(turns, what), gone.count(what));
      }
    }
    BeeTurnpike bee = Check.taught(LIST);
    // sa misses wa, sb is right at wb, sc appeals at wa (too weak by 2).
    int[] three = {3, 2, 1, 0, 0, 1, 0};
    // sa misses wa anew and is out, sb hints and is right at wb, sc passes; then the toll.
    int[] six = {2, 3, 2, 1, 1, 1, 0};
    for (int i = 0; i < 7; i++) {
      CHECK.same("foresee(3, " + (10 + i) + ")", bee.foresee(3, 10 + i), three[i]);
    }
    for (int i = 1; i < 7; i++) {
      CHECK.same("foresee(6, " + (10 + i) + ")", bee.foresee(6, 10 + i), six[i]);
    }
    BeeTurnpike over = Check.taught("speller sa passes 1;");
    CHECK.same("foresee(60, 10) as it is over", over.foresee(60, 10), 1);
    CHECK.same("foresee(1, 11) as it is over", over.foresee(1, 11), 0);
  }

  private static void foreseeRefuses() {
    BeeTurnpike bee = Check.taught(LIST);
    Class<IllegalArgumentException> wrong = IllegalArgumentException.class;
    Class<IndexOutOfBoundsException> none = IndexOutOfBoundsException.class;
    for (int x : new int[] {0, -1, 61, Integer.MIN_VALUE, Integer.MAX_VALUE}) {
      CHECK.refused(bee, "foresee(" + x + ", 10)", wrong, () -> bee.foresee(x, 10));
      CHECK.refused(bee, "foresee(" + x + ", 9)", wrong, () -> bee.foresee(x, 9));
    }
    for (int x : new int[] {0, 9, 17, -1, Integer.MIN_VALUE, Integer.MAX_VALUE}) {
      CHECK.refused(bee, "foresee(1, " + x + ")", none, () -> bee.foresee(1, x));
      CHECK.refused(bee, "foresee(60, " + x + ")", none, () -> bee.foresee(60, x));
    }
  }

  private static void until() {
    BeeTurnpike bee = Check.taught(LIST);
    // sa goes out behind the fourth turn.
    CHECK.same("until(0)", bee.until(0), 4);
    CHECK.same("until(1)", bee.until(1), -1);
    bee.go(3);
    CHECK.same("until(0) three turns later", bee.until(0), 1);
    bee.go(1);
    CHECK.same("until(0) as she is out", bee.until(0), 0);
    // She goes out and comes in again, as nobody is right: the first time counts.
    String list = "tongue la ease 0;root ra of la letters 1 hard 8;word wa from ra;"
        + "speller sa passes 0;speller sb passes 0;round ro toll 0 laps 2 words wa;";
    BeeTurnpike back = Check.taught(list);
    CHECK.same("until() of who comes in again", back.until(0), 3);
    // The last one of the lap is in again with the very turn, so she is never out.
    CHECK.same("until() of the last one", back.until(1), -1);
    CHECK.same("go() to the end", back.go(60), 4);
    CHECK.same("until() as it is over, of who is in", back.until(0), -1);
    BeeTurnpike toll = Check.taught("tongue la ease 0;root ra of la letters 1 hard 8;word wa from ra;"
        + "speller sa passes 0;speller sb passes 0 knows la 9;speller sc passes 0 knows la 9;"
        + "round ro toll 1 laps 1 words wa;round rp toll 1 laps 1 words wa;");
    CHECK.same("until() of who is out by a toll", toll.until(0), 3);
    Class<IndexOutOfBoundsException> none = IndexOutOfBoundsException.class;
    for (int x : new int[] {-1, 3, Integer.MIN_VALUE, Integer.MAX_VALUE}) {
      CHECK.refused(bee, "until(" + x + ")", none, () -> bee.until(x));
    }
    CHECK.refused(new BeeTurnpike(), "until(0) of a new one", none, () -> new BeeTurnpike().until(0));
  }

  private static void winner() {
    BeeTurnpike bee = Check.taught(LIST);
    CHECK.same("winner()", bee.winner(), 1);
    bee.award(2, 20);
    CHECK.same("winner() with twenty points", bee.winner(), 2);
    // Who is out does not win, though she has more points; of as many the smaller number wins.
    BeeTurnpike out = Check.taught("tongue la ease 0;root ra of la letters 1 hard 8;word wa from ra;"
        + "speller sa passes 0;speller sb passes 0 knows la 9;speller sc passes 0 knows la 9;"
        + "round ro toll 0 laps 2 words wa;");
    out.award(0, 20);
    CHECK.same("winner() of those who are in", out.winner(), 1);
    out.go(60);
    CHECK.same("winner() as it is over", out.winner(), 1);
    out.award(2, 1);
    CHECK.same("winner() as it is over, by points given then", out.winner(), 2);
    CHECK.same("winner() without spellers", Check.taught("tongue la ease 0;").winner(), -1);
    CHECK.same("winner() of one", Check.taught("speller sa passes 0;").winner(), 0);
  }

  private static void adviseNothing() {
    BeeTurnpike bee = Check.taught("tongue la ease 0;root ra of la letters 1 hard 4;word wa from ra;"
        + "speller sa passes 3 knows la 9;speller sb passes 0 knows la 9;round ro toll 0 laps 2 words wa;");
    bee.award(0, 1);
    // She is the first one in any case; of several choices the smallest is told.
    CHECK.same("advise() of who wins anyway", bee.advise(), 0);
    bee.award(1, 1);
    // By a hint, or by a pass, she falls behind.
    CHECK.same("advise() of who wins narrowly", bee.advise(), 0);
    bee.award(1, 20);
    CHECK.same("advise() of who loses anyway", bee.advise(), 0);
  }

  private static void adviseHint() {
    String list = "tongue la ease 0;root ra of la letters 1 hard 8;word wa from ra;"
        + "speller sa passes 1 knows la 5;speller sb passes 0 knows la 9;round ro toll 3 laps 1 words wa;";
    BeeTurnpike bee = Check.taught(list);
    bee.award(0, 1);
    // With a hint she is right and has 0 + 3 points, as sb: first by her number.
    CHECK.same("advise() of who needs a hint", bee.advise(), 1);
    // The hint taken, nothing else is better.
    bee.hint();
    CHECK.same("advise() with the hint", bee.advise(), 0);
    CHECK.same("winner() with the hint", bee.winner(), 0);
  }

  private static void advisePass() {
    String list = "tongue la ease 0;root ra of la letters 1 hard 8;root rb of la letters 1 hard 1;"
        + "word wa from ra;word wb from rb;"
        + "speller sa passes 1 knows la 1;speller sb passes 0 knows la 1;speller sc passes 0 knows la 1;"
        + "round ro toll 1 laps 2 words wa wa wb wb;";
    BeeTurnpike bee = Check.taught(list);
    // Passed on: sb and sc miss wa, sa and sb are right at wb, sc misses wa and is out; sa has the
    // smallest number. Spelled: sa and sb miss, sc is right, sa is right, sb misses and is out, sc misses.
    CHECK.same("advise() of who is first without it", bee.advise(), 0);
    bee.award(2, 1);
    // Without a pass sc has 2 points to sa's 1; with it sc is out.
    CHECK.same("advise() of who had best pass", bee.advise(), 2);
    bee.award(0, 1);
    CHECK.same("advise() of who is first by points", bee.advise(), 0);
  }

  private static void adviseCannot() {
    String list = "tongue la ease 0;root ra of la letters 1 hard 8;word wa from ra;"
        + "speller sa passes 0 knows la 5;speller sb passes 0 knows la 9;round ro toll 3 laps 1 words wa;";
    // A hint would be best, but she has no point.
    CHECK.same("advise() without a point", Check.taught(list).advise(), 0);
    BeeTurnpike over = Check.taught(list);
    over.go(60);
    CHECK.same("advise() as it is over", over.advise(), -1);
    CHECK.same("advise() of a new one", new BeeTurnpike().advise(), -1);
    // Three hints would be needed, she has taken two.
    BeeTurnpike two = Check.taught(list.replace("sa passes 0 knows la 5", "sa passes 0 knows la 1"));
    two.award(0, 3);
    two.hint();
    two.hint();
    CHECK.same("advise() with two hints taken", two.advise(), 0);
  }

  private static void mean() {
    BeeTurnpike bee = Check.taught(LIST);
    CHECK.same("mean() at first", bee.mean(), 0.0);
    bee.award(0, 1);
    CHECK.same("mean() of one point", bee.mean(), 1.0 / 3.0);
    bee.award(2, 4);
    CHECK.same("mean() of five points", bee.mean(), 5.0 / 3.0);
    bee.go(60);
    int sum = bee.speller(0, 1) + bee.speller(1, 1) + bee.speller(2, 1);
    CHECK.same("mean() at last, of those who are out, too", bee.mean(), sum / 3.0);
    CHECK.same("mean() of none", Check.taught("tongue la ease 0;").mean(), 0.0);
  }

  private static long more(long d, int... numbers) {
    for (int x : numbers) {
      d = d * 31 + x;
    }
    return d;
  }

  private static void digest() {
    BeeTurnpike bee = Check.taught(LIST);
    bee.go(4);
    Check.feed(bee, "tongue");
    long d = 919;
    for (int what = 0; what <= 17; what++) {
      d = more(d, bee.count(what));
    }
    for (int root = 0; root < 2; root++) {
      for (int what = 0; what <= 4; what++) {
        d = more(d, bee.root(root, what));
      }
    }
    for (int word = 0; word < 2; word++) {
      for (int what = 0; what <= 4; what++) {
        d = more(d, bee.word(word, what));
      }
    }
    for (int speller = 0; speller < 3; speller++) {
      for (int what = 0; what <= 8; what++) {
        d = more(d, bee.speller(speller, what));
      }
      d = more(d, bee.knows(speller, 0), bee.heard(speller, 0), bee.heard(speller, 1));
    }
    CHECK.same("digest()", bee.digest(), d);
    // By hand, of two spellers that never meet a word.
    BeeTurnpike small = Check.taught("tongue la ease 3;speller sa passes 1 knows la 7;speller sb passes 2;");
    d = more(919, 0, 1, 0, 0, 2, 0, 0, -1, -1, -1, 2, 0, 0, 0, 0, 0, 0, 0);
    d = more(d, 1, 0, 0, 1, 1, 0, 0, 0, 0, 7);
    d = more(d, 1, 0, 0, 2, 1, 0, 0, 0, 1, 0);
    CHECK.same("digest() by hand", small.digest(), d);
  }

  private static void nothingIsChanged() {
    BeeTurnpike bee = Check.taught(LIST);
    BeeTurnpike twin = Check.taught(LIST);
    bee.award(0, 2);
    twin.award(0, 2);
    bee.hint();
    twin.hint();
    for (int turn = 0; turn < 12; turn++) {
      bee.foresee(60, 11);
      bee.foresee(1, 10);
      bee.until(0);
      bee.until(2);
      bee.winner();
      bee.advise();
      bee.mean();
      CHECK.same("digest() behind the turn " + turn, bee.digest(), twin.digest());
      CHECK.same("strong(0, 0) behind the turn " + turn, bee.strong(0, 0), twin.strong(0, 0));
      CHECK.same("go(1), the turn " + turn, bee.go(1), twin.go(1));
    }
  }
}
