/** Promise 18, and how turns, laps and rounds go: orders, spelling, appeals, tolls, tests. */
public final class TurnsTest extends Lists {
  private static final Check CHECK = new Check("TurnsTest");

  public static void main(String[] args) {
    goRefuses();
    pointsOfAWord();
    hintsByOrder();
    passesByOrder();
    ordersInTheirOrder();
    appeals();
    appealsInTheirOrder();
    backIn();
    backInBehindPasses();
    aloneToTheEndOfTheLap();
    placesGoOn();
    tolls();
    missesAreForgotten();
    sums();
    tests();
    whatTestsTell();
    CHECK.end();
  }

  private static void goRefuses() {
    BeeTurnpike bee = Check.taught(list(of(3), of(0, 9), 0) + "round o toll 0 laps 9 words w0;");
    for (int turns : of(0, -1, 61, Integer.MIN_VALUE, Integer.MAX_VALUE)) {
      CHECK.refused(bee, "go(" + turns + ")", IllegalArgumentException.class, () -> bee.go(turns));
    }
    CHECK.same("go(1)", bee.go(1), 1);
    CHECK.counts(bee, "behind a turn", 0, 1);
    CHECK.counts(bee, "behind a turn", 7, 0, 1, 0);
    // She who knows nothing goes out in the second lap; the lap is gone on with, then it is over.
    CHECK.same("go(60)", bee.go(60), 3);
    CHECK.same("go(60) as it is over", bee.go(60), 0);
    CHECK.counts(bee, "as it is over", 7, -1, -1, -1, 1, 2, 2);
    // With two who know enough all of 9 laps of 5 rounds are played: 90 turns, 60 at most at once.
    StringBuilder rounds = new StringBuilder();
    for (int i = 0; i < 5; i++) {
      rounds.append("round o").append(i).append(" toll 0 laps 9 words w0;");
    }
    BeeTurnpike full = Check.taught(list(of(3), of(3, 3), 0) + rounds);
    CHECK.same("go(60) of ninety", full.go(60), 60);
    CHECK.same("the round behind sixty", full.count(7), 3);
    CHECK.same("go(60) of thirty", full.go(60), 30);
    CHECK.counts(full, "behind ninety", 0, 90);
    CHECK.counts(full, "behind ninety", 10, 2, 90, 0, 0, 0, 0, 0);
  }

  private static void pointsOfAWord() {
    // Hard 3, 4, 7, 8 (a word of one letter is as hard as its root).
    BeeTurnpike bee = Check.taught(list(of(3, 4, 7, 8), of(8, 2), 0)
        + "round o toll 0 laps 1 words w0;round p toll 0 laps 1 words w1;"
        + "round q toll 0 laps 1 words w2;round r toll 0 laps 1 words w3;");
    int[] points = {1, 3, 5, 8};
    for (int i = 0; i < 4; i++) {
      bee.go(1);
      CHECK.same("points behind the word " + i, bee.speller(0, 1), points[i]);
      CHECK.same("heard(0, " + i + ")", bee.heard(0, i), 1);
      bee.go(1);
      CHECK.same("heard(1, " + i + ")", bee.heard(1, i), 0);
    }
    CHECK.same("points of who never is right", bee.speller(1, 1), 0);
    // As strong as the word is hard is enough, one less is not.
    BeeTurnpike edge = Check.taught(list(of(5), of(5, 4), 0) + "round o toll 0 laps 1 words w0;");
    edge.go(2);
    CHECK.spellers(edge, "at the edge", 6, 1, 0);
    CHECK.spellers(edge, "at the edge", 7, 0, 1);
    CHECK.spellers(edge, "at the edge", 2, 0, 0);
  }

  private static void hintsByOrder() {
    String list = list(of(6, 9), of(0, 9), 0) + "round o toll 0 laps 2 words w0 w1;";
    String hint = "hint s0 when points s0 > 1;";
    BeeTurnpike bee = Check.taught(list + hint + hint + hint);
    bee.award(0, 9);
    bee.go(1);
    // Two hints, not three: 9 - 2, and rightly spelled 1 + 6 / 4.
    CHECK.spellers(bee, "behind two hints", 1, 9);
    CHECK.spellers(bee, "behind two hints", 5, 2);
    CHECK.counts(bee, "behind two hints", 11, 1, 0, 2);
    // The test holds or not as it comes to its turn: of two points one alone is spent.
    BeeTurnpike few = Check.taught(list + hint + hint + hint);
    few.award(0, 2);
    few.go(1);
    CHECK.spellers(few, "behind one hint", 1, 1);
    CHECK.spellers(few, "behind one hint", 5, 1);
    CHECK.spellers(few, "behind one hint", 7, 1);
    // Without a point nothing is taken, and nobody takes another one's hints.
    BeeTurnpike none = Check.taught(list + "hint s0 when in s0;hint s0 when in s0;");
    none.award(1, 5);
    none.go(2);
    CHECK.counts(none, "without a point", 13, 0);
    CHECK.spellers(none, "without a point", 1, 0, 8);
    // Taken anew in the next turn.
    BeeTurnpike anew = Check.taught(list(of(6), of(0, 9), 0) + "round o toll 0 laps 2 words w0;" + hint + hint);
    anew.award(0, 20);
    anew.go(3);
    CHECK.spellers(anew, "of two turns", 5, 4);
    CHECK.counts(anew, "of two turns", 13, 4);
  }

  private static void passesByOrder() {
    BeeTurnpike bee = Check.taught(list(of(6, 9), of(9, 9, 9), 1) + "round o toll 0 laps 2 words w0 w1;"
        + "pass s0 when in s0;hint s0 when in s0;pass s1 when turn > 1;");
    bee.award(0, 5);
    bee.go(1);
    CHECK.counts(bee, "behind a pass", 8, 1, 0, 3, 0, 0, 0, 1);
    CHECK.spellers(bee, "behind a pass", 3, 0, 1, 1);
    bee.go(2);
    // The third one spelled w1; the first one has no pass left, so she hints and spells w0.
    CHECK.counts(bee, "behind a lap", 8, 0, 0);
    bee.go(1);
    CHECK.counts(bee, "behind the first one's second turn", 8, 1, 1, 3, 3, 0, 1, 1);
    bee.go(1);
    CHECK.counts(bee, "behind the second one's pass", 8, 2, 1, 3, 3, 0, 1, 2);
  }

  private static void ordersInTheirOrder() {
    String list = list(of(9), of(0, 9), 1) + "round o toll 0 laps 1 words w0;";
    BeeTurnpike hinted = Check.taught(list + "hint s0 when in s0;pass s0 when in s0;");
    hinted.award(0, 1);
    hinted.go(1);
    CHECK.counts(hinted, "with a hint ahead of the pass", 13, 1, 1);
    BeeTurnpike passed = Check.taught(list + "pass s0 when in s0;hint s0 when in s0;");
    passed.award(0, 1);
    passed.go(1);
    CHECK.counts(passed, "with a hint behind the pass", 13, 0, 1);
    // A pass that cannot be does not end the orders.
    BeeTurnpike poor = Check.taught(list(of(9), of(0, 9), 0) + "round o toll 0 laps 1 words w0;"
        + "pass s0 when in s0;hint s0 when in s0;");
    poor.award(0, 1);
    poor.go(1);
    CHECK.counts(poor, "with a hint behind a pass that cannot be", 11, 0, 1, 1, 0);
    // The second order sees what the first one did.
    BeeTurnpike seen = Check.taught(list + "hint s0 when points s0 = 1;pass s0 when points s0 = 0 and gap s0 = 6;");
    seen.award(0, 1);
    seen.go(1);
    CHECK.counts(seen, "with a pass behind a hint", 13, 1, 1);
  }

  private static void appeals() {
    // Too weak by 2, by 3 and by 1; all appeal always.
    BeeTurnpike bee = Check.taught(list(of(8), of(6, 5, 7, 0), 0) + "round o toll 0 laps 2 words w0;"
        + "appeal s0 when in s0;appeal s1 when in s1;appeal s2 when in s2;");
    bee.go(4);
    CHECK.spellers(bee, "behind appeals", 1, 1, 0, 1, 0);
    CHECK.spellers(bee, "behind appeals", 2, 0, 1, 0, 1);
    CHECK.spellers(bee, "behind appeals", 4, 1, 0, 1, 1);
    CHECK.spellers(bee, "behind appeals", 6, 1, 0, 1, 0);
    CHECK.spellers(bee, "behind appeals", 7, 0, 1, 0, 1);
    CHECK.counts(bee, "behind appeals", 11, 2, 2, 0, 0, 2, 1);
    CHECK.same("words spelled", bee.word(0, 3), 4);
    CHECK.same("words spelled rightly, those granted, too", bee.word(0, 4), 2);
    for (int s = 0; s < 4; s++) {
      CHECK.same("heard(" + s + ", 0) behind an appeal", bee.heard(s, 0), 0);
    }
    bee.go(4);
    // Those who were granted it appeal again, those who lost it do not.
    CHECK.counts(bee, "behind appeals again", 11, 4, 4, 0, 0, 4, 1);
    // Who is strong enough does not appeal.
    BeeTurnpike strong = Check.taught(list(of(8), of(8, 8), 0) + "round o toll 0 laps 1 words w0;appeal s0 when in s0;");
    strong.go(1);
    CHECK.counts(strong, "of who is strong enough", 11, 1, 0, 0, 0, 0, 0);
    CHECK.same("points of who is strong enough", strong.speller(0, 1), 3);
    // A word granted counts as spelled rightly in the lap: who went out stays out.
    BeeTurnpike lap = Check.taught(list(of(8), of(0, 6, 6), 0) + "round o toll 0 laps 3 words w0;"
        + "appeal s1 when in s1;appeal s2 when in s2;");
    lap.go(6);
    CHECK.spellers(lap, "behind a granted word", 0, 0, 1, 1);
  }

  private static void appealsInTheirOrder() {
    String list = list(of(8), of(3, 9), 0) + "round o toll 0 laps 1 words w0;";
    BeeTurnpike second = Check.taught(list + "appeal s0 when turn > 0;appeal s0 when turn = 0;appeal s0 when in s0;");
    second.go(1);
    CHECK.counts(second, "behind the second order", 15, 0, 1);
    BeeTurnpike none = Check.taught(list + "appeal s0 when turn > 0;appeal s1 when in s0;");
    none.go(1);
    CHECK.counts(none, "without an order that holds", 15, 0, 0);
    CHECK.same("the appeal that was not made", none.speller(0, 4), 1);
    // The test sees hints taken in this turn: too weak by 5, then by 2.
    BeeTurnpike seen = Check.taught(list + "appeal s0 when gap s0 <= 2;hint s0 when in s0;");
    seen.award(0, 1);
    seen.go(1);
    CHECK.counts(seen, "behind a hint", 13, 1, 0, 1, 0);
  }

  private static void backIn() {
    // Nobody is ever right: with the second miss both go out, and are in again with one.
    BeeTurnpike bee = Check.taught(list(of(9), of(0, 0), 0) + "round o toll 0 laps 4 words w0;");
    bee.go(2);
    CHECK.spellers(bee, "behind a lap", 2, 1, 1);
    bee.go(1);
    CHECK.spellers(bee, "in the second lap", 0, 0, 1);
    CHECK.spellers(bee, "in the second lap", 2, 2, 1);
    CHECK.counts(bee, "in the second lap", 10, 1);
    bee.go(1);
    CHECK.spellers(bee, "behind the second lap", 0, 1, 1);
    CHECK.spellers(bee, "behind the second lap", 2, 1, 1);
    CHECK.counts(bee, "behind the second lap", 8, 0, 0, 2);
    CHECK.same("the turns that are left", bee.go(60), 4);
    CHECK.spellers(bee, "at the end of the round", 2, 0, 0);
    CHECK.spellers(bee, "at the end of the round", 0, 1, 1);
    // Who went out in a lap ahead of it stays out.
    BeeTurnpike ahead = Check.taught(list(of(3, 9), of(3, 3, 3, 0), 0) + "round o toll 0 laps 9 words w1 w1 w0 w1 w0;");
    ahead.go(4);
    CHECK.spellers(ahead, "behind the first lap", 2, 1, 1, 0, 1);
    ahead.go(4);
    // The second lap: w0 w1 w1 w0: s0 is right, s1 is out, s2 misses, s3 is out.
    CHECK.spellers(ahead, "behind the second lap", 0, 1, 0, 1, 0);
    CHECK.spellers(ahead, "behind the second lap", 2, 1, 2, 1, 2);
    ahead.go(1);
    // The third lap: w1 w0 for s0 and s2: s0 is out, s2 is right, and the bee is over.
    CHECK.spellers(ahead, "in the third lap", 0, 0, 0, 1, 0);
    CHECK.same("turns to the end", ahead.go(60), 1);
  }

  private static void backInBehindPasses() {
    // The first one goes out, the second one passes: nobody was right, so the first one is in again.
    BeeTurnpike bee = Check.taught(list(of(9), of(0, 9), 3) + "round o toll 0 laps 9 words w0;"
        + "pass s1 when in s1;");
    bee.go(4);
    CHECK.spellers(bee, "behind a lap with a pass", 0, 1, 1);
    CHECK.spellers(bee, "behind a lap with a pass", 2, 1, 0);
    CHECK.counts(bee, "behind a lap with a pass", 8, 0, 0, 2);
    bee.go(2);
    CHECK.spellers(bee, "behind the third lap", 2, 1, 0);
    bee.go(2);
    // No pass is left: she is right, and the first one is out for good.
    CHECK.spellers(bee, "behind the fourth lap", 0, 0, 1);
    CHECK.counts(bee, "behind the fourth lap", 7, -1, -1, -1);
  }

  private static void aloneToTheEndOfTheLap() {
    BeeTurnpike bee = Check.taught(list(of(9), of(0, 9, 9), 0) + "round o toll 0 laps 9 words w0;");
    bee.award(1, 1);
    bee.go(3);
    bee.go(1);
    CHECK.counts(bee, "in the second lap", 8, 1, 0, 2);
    // Two alone, of whom the first one is out: the other still has her turn.
    BeeTurnpike two = Check.taught(list(of(9), of(0, 9), 0) + "round o toll 0 laps 9 words w0;");
    two.go(3);
    CHECK.counts(two, "with one alone", 8, 1, 0, 1);
    CHECK.same("go() of one alone", two.go(60), 1);
    CHECK.counts(two, "at last", 0, 4);
    CHECK.spellers(two, "at last", 6, 0, 2);
  }

  private static void placesGoOn() {
    BeeTurnpike bee = Check.taught(list(of(1, 1, 1, 1), of(9, 9), 3)
        + "round o toll 0 laps 3 words w2 w0 w1;round p toll 0 laps 1 words w3 w1;");
    int[] words = {2, 0, 1, 2, 0, 1, 3, 1};
    for (int turn = 0; turn < words.length; turn++) {
      CHECK.same("the word of the turn " + turn, bee.count(9), words[turn]);
      CHECK.same("the round of the turn " + turn, bee.count(7), turn < 6 ? 0 : 1);
      CHECK.same("the speller of the turn " + turn, bee.count(8), turn % 2);
      bee.go(1);
    }
    CHECK.counts(bee, "at last", 7, -1, -1, -1);
    // The place is the first one again in a new round, and a word passed on stays.
    BeeTurnpike anew = Check.taught(list(of(1, 2), of(9, 9), 3)
        + "round o toll 0 laps 1 words w0 w1 w0;round p toll 0 laps 1 words w1 w0;");
    anew.skip();
    CHECK.same("the word passed on", anew.count(9), 0);
    anew.go(1);
    CHECK.same("the first word of the second round", anew.count(9), 1);
  }

  private static void tolls() {
    // Points 3, 1, 3, 0 behind a lap; the toll is 2.
    String list = list(of(8), of(8, 0, 9, 1), 0);
    BeeTurnpike bee = Check.taught(list + "round o toll 2 laps 1 words w0;round p toll 4 laps 1 words w0;"
        + "round q toll 9 laps 1 words w0;round r toll 12 laps 9 words w0;");
    bee.award(1, 1);
    bee.go(4);
    CHECK.spellers(bee, "behind the first toll", 0, 1, 0, 1, 0);
    CHECK.spellers(bee, "behind the first toll", 2, 0, 0, 0, 0);
    CHECK.counts(bee, "behind the first toll", 7, 1, 0, 0, 2);
    bee.go(2);
    // Six points each: the toll of 4 is paid.
    CHECK.spellers(bee, "behind the second toll", 0, 1, 0, 1, 0);
    CHECK.counts(bee, "behind the second toll", 7, 2);
    bee.award(2, 1);
    bee.go(2);
    // Nine and ten: as much as the toll is enough.
    CHECK.spellers(bee, "behind the third toll", 1, 9, 1, 10, 0);
    CHECK.counts(bee, "behind the third toll", 7, 3, 0, 0, 2);
    // All who are in have less than the toll: nobody is out.
    BeeTurnpike all = Check.taught(list + "round o toll 99 laps 1 words w0;round p toll 3 laps 1 words w0;");
    all.go(4);
    CHECK.spellers(all, "behind a toll that nobody has", 0, 1, 1, 1, 1);
    CHECK.counts(all, "behind a toll that nobody has", 7, 1);
    // Fewer than two are left by the toll: over, though there is a further round.
    BeeTurnpike one = Check.taught(list + "round o toll 4 laps 1 words w0;round p toll 3 laps 1 words w0;");
    one.award(2, 1);
    CHECK.same("go() to a toll that one has", one.go(60), 4);
    CHECK.spellers(one, "behind a toll that one has", 0, 0, 0, 1, 0);
    CHECK.counts(one, "behind a toll that one has", 7, -1, -1, -1, 1);
    // The toll of the last round is taken, too.
    BeeTurnpike last = Check.taught(list + "round o toll 3 laps 1 words w0;");
    last.go(60);
    CHECK.spellers(last, "behind the last toll", 0, 1, 0, 1, 0);
    // Who is out by a toll does not come in again as nobody is right.
    BeeTurnpike stay = Check.taught(list(of(8, 9), of(8, 0, 8), 0)
        + "round o toll 2 laps 1 words w0;round p toll 0 laps 2 words w1;");
    stay.go(7);
    CHECK.spellers(stay, "behind a lap in which nobody was right", 0, 1, 0, 1);
  }

  private static void missesAreForgotten() {
    BeeTurnpike bee = Check.taught(list(of(9, 1), of(0, 9, 9), 0)
        + "round o toll 0 laps 2 words w0;round p toll 0 laps 1 words w0;round q toll 0 laps 1 words w0;");
    bee.go(3);
    CHECK.spellers(bee, "in the first round", 2, 1, 0, 0);
    bee.go(1);
    CHECK.spellers(bee, "as she goes out", 2, 2, 0, 0);
    bee.go(2);
    // Her misses are 0 in the next round, but she is out.
    CHECK.spellers(bee, "in the second round", 2, 0, 0, 0);
    CHECK.spellers(bee, "in the second round", 0, 0, 1, 1);
    // A miss at the end of a round does not count in the next one.
    BeeTurnpike kept = Check.taught(list(of(9, 1), of(0, 9, 9), 0)
        + "round o toll 0 laps 1 words w0;round p toll 0 laps 1 words w0;round q toll 0 laps 1 words w0;");
    kept.go(9);
    CHECK.spellers(kept, "behind three rounds", 0, 1, 1, 1);
    CHECK.spellers(kept, "behind three rounds", 7, 3, 0, 0);
    // Over by too few in the midst of a round: misses stay.
    BeeTurnpike few = Check.taught(list(of(9), of(0, 9), 0) + "round o toll 0 laps 3 words w0;");
    few.go(60);
    CHECK.spellers(few, "over in the midst", 2, 2, 0);
  }

  /** Whether a test holds in the first turn. */
  private static void test(boolean due, String test) {
    BeeTurnpike bee = Check.taught(list(of(8, 5), of(6, 9, 1), 3) + "round o toll 0 laps 9 words w0 w1;"
        + "pass s0 when " + test + ";");
    bee.award(0, 4);
    bee.award(1, 7);
    bee.go(1);
    CHECK.same("passes by \"" + test + "\"", bee.count(14), due ? 1 : 0);
  }

  private static void sums() {
    test(true, "1 + 2 * 3 = 7");
    test(true, "(1 + 2) * 3 = 9");
    test(true, "10 - 3 - 2 = 5");
    test(true, "100 / 5 / 2 = 10");
    test(true, "100 / (5 / 2) = 50");
    test(true, "7 - 2 * 3 + 8 / 4 = 3");
    test(true, "7 / 2 = 3");
    test(true, "-7 / 2 = -3");
    test(true, "7 / -2 = -3");
    test(true, "-(7 / -2) = 3");
    test(true, "-7 / -2 = 3");
    test(true, "2 / 3 * 3 = 0");
    test(true, "7 / 0 = 0");
    test(true, "0 / 0 = 0");
    test(true, "5 / (3 - 3) = 0");
    test(true, "- 2 * 3 = -6");
    test(true, "5 - -2 = 7");
    test(true, "--5 = 5");
    test(true, "-5 < 5");
    test(true, "min(3, 2) = 2 and max(3, 2) = 3");
    test(true, "min(-1, max(-3, -2)) = -2");
    test(true, "min(1 + 5, 2 * 2) - max(turn, 1) = 3");
    test(true, "000012 = 12");
    // Numbers wrap around in 32 bits.
    test(true, "65536 * 65536 = 0");
    test(true, "32768 * 65536 < 0");
    test(true, "32768 * 65536 - 1 > 0");
    test(true, "32768 * 65536 = 0 - 32768 * 65536");
    test(true, "-(32768 * 65536) = 32768 * 65536");
    test(true, "32768 * 65536 / -1 = 32768 * 65536");
    test(true, "(32768 * 65536 - 1) + 1 = 32768 * 65536");
    test(true, "999999 * 999999 = 0 - 729379 * 1000 - 967");
    test(true, "32768 * 65536 / (32768 * 65536) = 1");
    test(true, "32768 * 65536 / 65536 = -32768");
  }

  private static void tests() {
    test(true, "1 < 2");
    test(false, "2 < 2");
    test(true, "2 <= 2");
    test(false, "3 <= 2");
    test(true, "3 > 2");
    test(false, "2 > 2");
    test(true, "2 >= 2");
    test(false, "1 >= 2");
    test(true, "2 = 2");
    test(false, "2 = 1");
    test(true, "not 1 = 2");
    test(true, "not not 1 = 1");
    test(false, "not 1 = 1");
    // and binds more than or, not more than and.
    test(true, "1 = 1 or 1 = 2 and 1 = 2");
    test(false, "[1 = 1 or 1 = 2] and 1 = 2");
    test(true, "1 = 2 and 1 = 2 or 1 = 1");
    test(false, "1 = 2 and [1 = 2 or 1 = 1]");
    test(false, "not 1 = 1 and 1 = 2");
    test(true, "not [1 = 1 and 1 = 2]");
    test(true, "not 1 = 1 or 1 = 1");
    test(false, "not [1 = 1 or 1 = 1]");
    test(true, "1 = 1 and 2 = 2 and 3 = 3");
    test(false, "1 = 1 and 2 = 2 and 3 = 4");
    test(true, "1 = 2 or 2 = 3 or 3 = 3");
    test(false, "1 = 2 or 2 = 3 or 3 = 4");
  }

  private static void whatTestsTell() {
    test(true, "turn = 0");
    test(true, "left = 3");
    test(true, "points s0 = 4 and points s1 = 7 and points s2 = 0");
    test(true, "misses s0 = 0");
    test(true, "passes s0 = 3");
    test(true, "gap s0 = 2 and gap s1 = -1 and gap s2 = 7");
    test(true, "hard w0 = 8 and hard w1 = 5");
    test(true, "in s0 and in s1");
    test(true, "next s0");
    test(false, "next s1");
    // Five turns later s0 is out by two misses, s2 has missed, s1 was right and has heard the root.
    String list = list(of(8, 5), of(1, 9, 3, 9), 1) + "round o toll 0 laps 9 words w0 w1;";
    String[] then = {
      "turn = 5", "left = 3", "points s1 = 2", "misses s0 = 2", "misses s2 = 1", "not in s0", "in s1",
      "next s1", "not next s0", "gap s1 = -5", "gap s2 = 2", "gap s0 = 4", "passes s0 = 1",
    };
    for (String part : then) {
      BeeTurnpike bee = Check.taught(list + "pass s1 when turn > 1 and " + part + ";");
      bee.go(5);
      CHECK.counts(bee, "behind s0's second turn", 8, 1, 1, 3);
      bee.go(1);
      CHECK.same("passes by \"" + part + "\"", bee.count(14), 1);
    }
    BeeTurnpike left = Check.taught(list + "pass s1 when passes s1 = 1;pass s1 when passes s1 = 0;");
    left.go(2);
    CHECK.same("passes of s1", left.speller(1, 3), 0);
  }
}
