/** The boundaries of the document's "2. The bee"; a comment quotes each sentence. */
public final class EdgesOfBeeTest extends Lists {
  private static final Check CHECK = new Check("EdgesOfBeeTest");

  public static void main(String[] args) {
    howHard();
    theLeastOfAllRoots();
    theLeastAndTheGreatestStrength();
    fiveOfWhatWasHeard();
    fiveOfWhatWasHeardAsSheSpells();
    threeForEachHint();
    hintsAsSheSpells();
    spellersAtFirst();
    beginningWithSpellersAndRounds();
    placesOfARound();
    twoHintsInATurn();
    hintsByHandCountToo();
    noHintWithoutAPoint();
    theTestAsItComesToItsTurn();
    noPassLeft();
    nothingBehindAPass();
    ordersOfHersAlone();
    asStrongAsTheWordIsHard();
    aFourthOfTheWord();
    heardAsOftenAsItComes();
    appealsByTwoAtMost();
    whatAGrantedAppealIs();
    noAppealWithoutHerAppeal();
    oneAppealInATurn();
    noAppealOfWhoIsRight();
    outByTwoMisses();
    thePlaceBehindATurn();
    theNextGreaterNumber();
    aloneToTheEndOfALap();
    inAgainAsNobodyWasRight();
    inAgainBehindPassesAlone();
    outForGoodAsSomebodyWasRight();
    outForGoodAsAnAppealWasGranted();
    outInALapBefore();
    outByAToll();
    rightInTheLapBefore();
    fewerThanTwoAtTheEndOfALap();
    fewerThanTwoAtTheLastLap();
    allItsLaps();
    tollPaidBySome();
    tollPaidByAll();
    tollPaidByNone();
    tollPaidByOne();
    tollOfThoseWhoAreInAlone();
    missesBehindARound();
    theLastRound();
    placeOfTheNextRound();
    theSmallestNumberWhoIsIn();
    whatTestsTellAtFirst();
    whatTestsTellLater();
    gapByHints();
    andBindsMoreThanOr();
    ranks();
    CHECK.end();
  }

  private static String times(int n, String text) {
    StringBuilder all = new StringBuilder();
    for (int i = 0; i < n; i++) {
      all.append(text);
    }
    return all.toString();
  }

  private static void over(BeeTurnpike bee, String when) {
    CHECK.counts(bee, when, 7, -1, -1, -1);
    CHECK.same("go(1) " + when, bee.go(1), 0);
  }

  // ---- "How hard a word is: what its roots are hard, added, and a fourth (cut) of the letters of all
  //      its roots."

  private static void howHard() {
    StringBuilder list = new StringBuilder("tongue t ease 0;");
    for (int letters = 1; letters <= 9; letters++) {
      list.append("root r").append(letters).append(" of t letters ").append(letters);
      list.append(" hard ").append(letters == 9 ? 9 : 0).append(';');
      list.append("word w").append(letters).append(" from r").append(letters).append(';');
    }
    list.append("word a from r2 r2;word b from r3 r4;word c from r9 r9 r9 r9;");
    BeeTurnpike bee = Check.taught(list.toString());
    // 1 to 8 letters of a root that is hard 0, 9 letters of one that is hard 9.
    int[] due = {0, 0, 0, 1, 1, 1, 1, 2, 11};
    for (int word = 0; word < due.length; word++) {
      CHECK.same("a word of " + (word + 1) + " letters", bee.word(word, 2), due[word]);
    }
    // The letters are added ahead of the cut: 4 of 2 and 2, 7 of 3 and 4, 36 of 4 times 9.
    CHECK.same("a word of 2 and 2 letters", bee.word(9, 2), 1);
    CHECK.same("a word of 3 and 4 letters", bee.word(10, 2), 1);
    CHECK.same("the hardest word", bee.word(11, 2), 45);
  }

  // ---- "How strong a speller is at a word: the least, of all its roots, of what she knows of the tongue
  //      of the root, the ease of this tongue, and how often she has heard the root, at most 5 of that,
  //      added; and 3 more for each hint that she took in this turn, if it is hers and this is the word."

  private static void theLeastOfAllRoots() {
    String roots = "tongue t ease 0;tongue u ease 4;tongue v ease 9;"
        + "root a of t letters 1 hard 9;root b of u letters 1 hard 9;root c of v letters 1 hard 9;";
    BeeTurnpike bee = Check.taught(roots + "word a from a;word b from b;word c from c;"
        + "word d from a b;word e from b a;word f from c b;word g from c c b c;word h from c b a b;"
        + "speller s passes 0 knows t 5 knows u 2;speller o passes 0 knows t 9;"
        + "round o toll 0 laps 1 words a;");
    // s: 5 by a, 2 + 4 by b, 9 by c. o: 9 by a, 4 by b, 9 by c.
    int[][] due = {{5, 6, 9, 5, 5, 6, 6, 5}, {9, 4, 9, 4, 4, 4, 4, 4}};
    for (int s = 0; s < 2; s++) {
      for (int w = 0; w < 8; w++) {
        CHECK.same("strong(" + s + ", " + w + ")", bee.strong(s, w), due[s][w]);
      }
    }
  }

  private static void theLeastAndTheGreatestStrength() {
    BeeTurnpike least = Check.taught(list(of(9), of(0, 0), 0) + "round o toll 0 laps 1 words w0;");
    CHECK.same("the least strength", least.strong(0, 0), 0);
    // 20 and 9, 5 by hearing it, 6 by hints.
    BeeTurnpike most = Check.taught("tongue t ease 9;root r of t letters 1 hard 0;word w from r r r r;"
        + "speller a passes 0 knows t 20;speller b passes 0;round o toll 0 laps 9 words w;");
    CHECK.same("the greatest of what is told", most.strong(0, 0), 29);
    most.go(2);
    CHECK.same("with 4 heard", most.strong(0, 0), 33);
    most.go(2);
    CHECK.same("with 8 heard", most.strong(0, 0), 34);
    most.hint();
    most.hint();
    CHECK.same("the greatest strength", most.strong(0, 0), 40);
  }

  private static void fiveOfWhatWasHeard() {
    BeeTurnpike bee = Check.taught(list(of(0), of(2, 0), 0) + "round o toll 0 laps 9 words w0;");
    int[] due = {2, 3, 4, 5, 6, 7, 7, 7, 7, 7};
    for (int lap = 0; lap <= 9; lap++) {
      CHECK.same("heard(0, 0) behind " + lap, bee.heard(0, 0), lap);
      CHECK.same("strong(0, 0) behind " + lap, bee.strong(0, 0), due[lap]);
      CHECK.same("strong(1, 0) behind " + lap, bee.strong(1, 0), due[lap] - 2);
      bee.go(2);
    }
  }

  private static void fiveOfWhatWasHeardAsSheSpells() {
    // w is hard 1; x is hard 4 and a fourth of 4 times the letters. Both know 1 and hear the root 6 times.
    for (int letters = 2; letters <= 3; letters++) {
      BeeTurnpike bee = Check.taught("tongue t ease 0;root r of t letters " + letters + " hard 1;"
          + "word w from r;word x from r r r r;speller a passes 0 knows t 1;speller b passes 0 knows t 1;"
          + "round o toll 0 laps 6 words w;round p toll 0 laps 1 words x;");
      CHECK.same("the first round of " + letters + " letters", bee.go(12), 12);
      CHECK.same("how hard it is with " + letters + " letters", bee.word(1, 2), 4 + letters);
      bee.go(1);
      // 1 and 5 is as strong as 6, but not as 7.
      CHECK.same("rightly spelled with " + letters + " letters", bee.word(1, 4), letters == 2 ? 1 : 0);
    }
  }

  private static void threeForEachHint() {
    BeeTurnpike bee = Check.taught(list(of(9, 9), of(4, 4, 4), 1) + "round o toll 0 laps 9 words w1 w0;");
    bee.award(0, 2);
    int[] due = {4, 7, 10};
    for (int hints = 0; hints <= 2; hints++) {
      String when = " with " + hints + " hints";
      CHECK.same("strong at the word on turn" + when, bee.strong(0, 1), due[hints]);
      CHECK.same("strong at another word" + when, bee.strong(0, 0), 4);
      CHECK.same("strong of the next one" + when, bee.strong(1, 1), 4);
      CHECK.same("strong of the last one" + when, bee.strong(2, 1), 4);
      if (hints < 2) {
        CHECK.same("hint()" + when, bee.hint(), 1 - hints);
      }
    }
    // Passed on, the word is the next one's: the hints are gone with the turn.
    bee.skip();
    CHECK.same("strong of the next one behind the turn", bee.strong(1, 1), 4);
    CHECK.same("strong of the one who had the hints", bee.strong(0, 1), 4);
    // Nor are they there in her next turn.
    bee.skip();
    bee.skip();
    CHECK.same("the speller on turn", bee.count(8), 0);
    CHECK.same("strong in her next turn", bee.strong(0, 1), 4);
  }

  private static void hintsAsSheSpells() {
    // So hard, with so many hints, who knows 1: right by 4 with one, by 7 with two.
    int[][] due = {{1, 0, 1}, {2, 0, 0}, {4, 1, 1}, {5, 1, 0}, {7, 2, 1}, {8, 2, 0}};
    for (int[] row : due) {
      BeeTurnpike bee = Check.taught(list(of(row[0]), of(1, 1), 0) + "round o toll 0 laps 9 words w0;"
          + times(row[1], "hint s0 when turn = 0;"));
      bee.award(0, 5);
      bee.go(1);
      CHECK.same("right by " + row[1] + " hints at " + row[0], bee.speller(0, 6), row[2]);
      CHECK.same("hints at " + row[0], bee.speller(0, 5), row[1]);
    }
  }

  // ---- "Spellers are in, with 0 points, 0 misses, their passes, and an appeal, at first."

  private static void spellersAtFirst() {
    BeeTurnpike bee = Check.taught("speller a passes 0;speller b passes 1;speller c passes 2;speller d passes 3;");
    CHECK.spellers(bee, "at first", 0, 1, 1, 1, 1);
    CHECK.spellers(bee, "at first", 1, 0, 0, 0, 0);
    CHECK.spellers(bee, "at first", 2, 0, 0, 0, 0);
    CHECK.spellers(bee, "at first", 3, 0, 1, 2, 3);
    CHECK.spellers(bee, "at first", 4, 1, 1, 1, 1);
    for (int what = 5; what <= 7; what++) {
      CHECK.spellers(bee, "at first", what, 0, 0, 0, 0);
    }
    CHECK.spellers(bee, "at first", 8, 0, 1, 2, 3);
  }

  // ---- "The bee begins with the first round, if there are two spellers at least, and a round; otherwise
  //      it is over."

  private static void beginningWithSpellersAndRounds() {
    for (int spellers = 0; spellers <= 6; spellers++) {
      for (int rounds = 0; rounds <= 2; rounds++) {
        StringBuilder list = new StringBuilder(list(of(0, 0), new int[spellers], 0));
        for (int i = 0; i < rounds; i++) {
          list.append("round o").append(i).append(" toll 0 laps 1 words w1 w0;");
        }
        BeeTurnpike bee = Check.taught(list.toString());
        String when = "with " + spellers + " spellers and " + rounds + " rounds";
        boolean begins = spellers >= 2 && rounds >= 1;
        CHECK.same("the round " + when, bee.count(7), begins ? 0 : -1);
        // "On turn is .. first the one with the smallest number; the word is .. first the first one".
        CHECK.same("the speller on turn " + when, bee.count(8), begins ? 0 : -1);
        CHECK.same("the word on turn " + when, bee.count(9), begins ? 1 : -1);
        CHECK.same("who are in " + when, bee.count(10), spellers);
        CHECK.same("go(60) " + when, bee.go(60), begins ? spellers * rounds : 0);
        CHECK.same("who are in at last " + when, bee.count(10), spellers);
      }
    }
  }

  // ---- "the word is the one of the round at a place, from 0, first the first one; behind the last one
  //      comes the first one again; a lap goes on at the place where the one ahead of it ended."

  private static void words(String when, BeeTurnpike bee, int... due) {
    for (int turn = 0; turn < due.length; turn++) {
      CHECK.same("the word of the turn " + turn + " " + when, bee.count(9), due[turn]);
      bee.go(1);
    }
  }

  private static void placesOfARound() {
    String two = list(of(0, 0, 0, 0), of(0, 0), 0);
    words("of one word", Check.taught(two + "round o toll 0 laps 2 words w2;"), 2, 2, 2, 2, -1);
    words("of two words", Check.taught(two + "round o toll 0 laps 2 words w2 w3;"), 2, 3, 2, 3, -1);
    words("of three words", Check.taught(two + "round o toll 0 laps 3 words w2 w0 w1;"), 2, 0, 1, 2, 0, 1, -1);
    words("of eight words", Check.taught(two + "round o toll 0 laps 5 words w0 w1 w2 w3 w3 w2 w1 w0;"),
        0, 1, 2, 3, 3, 2, 1, 0, 0, 1, -1);
    String three = list(of(0, 0, 0, 0), of(0, 0, 0), 0);
    words("of three spellers", Check.taught(three + "round o toll 0 laps 2 words w3 w1;"), 3, 1, 3, 1, 3, 1, -1);
  }

  // ---- "hint: if she has taken fewer than 2 hints in this turn, and has a point or more, she has a point
  //      less, and has taken one more."

  private static void twoHintsInATurn() {
    for (int orders = 0; orders <= 5; orders++) {
      BeeTurnpike bee = Check.taught(list(of(9), of(0, 9), 0) + "round o toll 0 laps 9 words w0;"
          + times(orders, "hint s0 when in s0;"));
      bee.award(0, 10);
      bee.go(1);
      int due = orders < 2 ? orders : 2;
      CHECK.same("hints of " + orders + " orders", bee.speller(0, 5), due);
      CHECK.same("hints in all of " + orders + " orders", bee.count(13), due);
      CHECK.same("points behind " + orders + " orders", bee.speller(0, 1), 10 - due);
      // In her next turn she takes as many again.
      bee.go(2);
      CHECK.same("hints of two turns and " + orders + " orders", bee.speller(0, 5), 2 * due);
      CHECK.same("points behind two turns", bee.speller(0, 1), 10 - 2 * due);
    }
  }

  private static void hintsByHandCountToo() {
    for (int byHand = 0; byHand <= 2; byHand++) {
      BeeTurnpike bee = Check.taught(list(of(9), of(0, 9), 0) + "round o toll 0 laps 9 words w0;"
          + times(3, "hint s0 when in s0;"));
      bee.award(0, 10);
      for (int n = 0; n < byHand; n++) {
        bee.hint();
      }
      bee.go(1);
      CHECK.same("hints with " + byHand + " by hand", bee.speller(0, 5), 2);
      CHECK.same("points with " + byHand + " by hand", bee.speller(0, 1), 8);
    }
  }

  private static void noHintWithoutAPoint() {
    int[] hints = {0, 1, 2, 2};
    int[] points = {0, 0, 0, 1};
    for (int given = 0; given <= 3; given++) {
      BeeTurnpike bee = Check.taught(list(of(9), of(0, 9), 0) + "round o toll 0 laps 9 words w0;"
          + times(3, "hint s0 when in s0;"));
      if (given > 0) {
        bee.award(0, given);
      }
      bee.go(1);
      CHECK.same("hints of " + given + " points", bee.speller(0, 5), hints[given]);
      CHECK.same("what is left of " + given + " points", bee.speller(0, 1), points[given]);
    }
  }

  // ---- "Orders of hint and pass of the speller on turn, in the order in which they are told, if the test
  //      holds as it comes to its turn"

  private static void theTestAsItComesToItsTurn() {
    String list = list(of(9), of(0, 9), 1) + "round o toll 0 laps 9 words w0;";
    String hint = "hint s0 when points s0 >= 2;";
    int[] hints = {0, 0, 1, 2, 2};
    for (int given = 1; given <= 4; given++) {
      BeeTurnpike bee = Check.taught(list + hint + hint + hint);
      bee.award(0, given);
      bee.go(1);
      CHECK.same("hints of " + given + " points, of two at least", bee.count(13), hints[given]);
    }
    // The first pass does not hold yet, the second one does behind the hint.
    BeeTurnpike bee = Check.taught(list + "pass s0 when points s0 = 0;hint s0 when points s0 = 1;"
        + "pass s0 when points s0 = 0;");
    bee.award(0, 1);
    bee.go(1);
    CHECK.counts(bee, "of a pass behind a hint", 11, 0, 0, 1, 1);
    // In their order: the test of the hint, ahead of the other, does not yet hold.
    BeeTurnpike late = Check.taught(list + "hint s0 when gap s0 = 6;hint s0 when gap s0 = 9;");
    late.award(0, 5);
    late.go(1);
    CHECK.same("hints in their order", late.count(13), 1);
  }

  // ---- "pass: if she has a pass left, she has one less, and passes the word on: then no further orders
  //      are looked at, and she does not spell."

  private static void noPassLeft() {
    for (int passes = 0; passes <= 3; passes++) {
      BeeTurnpike bee = Check.taught(list(of(1), of(9, 9), passes) + "round o toll 0 laps 5 words w0;"
          + "pass s0 when in s0;");
      for (int lap = 1; lap <= 5; lap++) {
        bee.go(2);
        int used = lap < passes ? lap : passes;
        String when = " of " + passes + " behind the lap " + lap;
        CHECK.same("passes left" + when, bee.speller(0, 3), passes - used);
        CHECK.same("passes in all" + when, bee.count(14), used);
        CHECK.same("words she spelled" + when, bee.speller(0, 6), lap - used);
        CHECK.same("passes of the other one" + when, bee.speller(1, 3), passes);
      }
    }
  }

  private static void nothingBehindAPass() {
    String list = list(of(1, 1), of(0, 9), 1) + "round o toll 0 laps 9 words w0 w1;";
    String rest = "hint s0 when in s0;pass s0 when in s0;appeal s0 when in s0;";
    BeeTurnpike bee = Check.taught(list + "pass s0 when in s0;" + rest);
    bee.award(0, 3);
    bee.go(1);
    // No hint, no second pass; the word is not spelled, and it is the next one's.
    CHECK.counts(bee, "behind a pass", 8, 1, 0, 2, 0, 0, 0, 1, 0, 0);
    CHECK.same("points behind a pass", bee.speller(0, 1), 3);
    CHECK.same("misses behind a pass", bee.speller(0, 2), 0);
    CHECK.same("how often it was spelled", bee.word(0, 3), 0);
    CHECK.same("turns", bee.count(0), 1);
    // A pass that cannot be is not one: further orders are looked at, and she spells.
    BeeTurnpike poor = Check.taught(list.replace("passes 1", "passes 0") + "pass s0 when in s0;" + rest);
    poor.award(0, 3);
    poor.go(1);
    CHECK.counts(poor, "without a pass", 8, 1, 1, 2, 1, 0, 1, 0, 0, 0);
  }

  private static void ordersOfHersAlone() {
    BeeTurnpike bee = Check.taught(list(of(9), of(0, 0, 0), 1) + "round o toll 0 laps 9 words w0;"
        + "pass s1 when next s0;hint s2 when next s0;appeal s1 when next s0;hint s1 when next s1;");
    bee.award(0, 3);
    bee.award(1, 3);
    bee.award(2, 3);
    bee.go(1);
    CHECK.counts(bee, "behind the turn of one without orders", 11, 0, 1, 0, 0, 0, 0);
    bee.go(1);
    CHECK.counts(bee, "behind the turn of one with an order", 11, 0, 2, 1, 0, 0, 0);
    CHECK.spellers(bee, "behind two turns", 1, 3, 2, 3);
  }

  // ---- "If she is as strong as the word is hard, or stronger, that is right: she has 1 point more, and a
  //      fourth (cut) of what the word is hard; she has heard each of its roots once more (as often as it
  //      comes)."

  private static void asStrongAsTheWordIsHard() {
    for (int knows = 3; knows <= 5; knows++) {
      BeeTurnpike bee = Check.taught(list(of(4), of(knows, 0), 0) + "round o toll 0 laps 9 words w0;");
      bee.go(1);
      int right = knows >= 4 ? 1 : 0;
      String when = "with " + knows + " to 4";
      CHECK.counts(bee, when, 11, right, 1 - right);
      CHECK.same("points " + when, bee.speller(0, 1), 2 * right);
      CHECK.same("misses " + when, bee.speller(0, 2), 1 - right);
      CHECK.same("words spelled rightly " + when, bee.speller(0, 6), right);
      CHECK.same("words not spelled rightly " + when, bee.speller(0, 7), 1 - right);
      CHECK.same("how often it was spelled " + when, bee.word(0, 3), 1);
      CHECK.same("how often rightly " + when, bee.word(0, 4), right);
      CHECK.same("heard " + when, bee.heard(0, 0), right);
    }
  }

  private static void aFourthOfTheWord() {
    int[] due = {1, 1, 1, 1, 2, 2, 2, 2, 3, 3};
    for (int hard = 0; hard <= 9; hard++) {
      BeeTurnpike bee = Check.taught(list(of(hard), of(9, 0), 0) + "round o toll 0 laps 9 words w0;");
      bee.go(1);
      CHECK.same("points of a word that is hard " + hard, bee.speller(0, 1), due[hard]);
    }
    // Hard 4 times 5 and a fourth of 36 is 29, as strong as one can be without hearing it: 1 and 7 points.
    String hardest = "root r of t letters 9 hard 5;word w from r r r r;speller a passes 0 knows t 20;"
        + "speller b passes 0;round o toll 0 laps 9 words w;";
    BeeTurnpike bee = Check.taught("tongue t ease 9;" + hardest);
    bee.go(1);
    CHECK.same("points of 29", bee.speller(0, 1), 8);
    BeeTurnpike weak = Check.taught("tongue t ease 8;" + hardest);
    weak.go(1);
    CHECK.same("points of 28 to 29", weak.speller(0, 1), 0);
  }

  private static void heardAsOftenAsItComes() {
    BeeTurnpike bee = Check.taught("tongue t ease 9;root q of t letters 1 hard 0;root r of t letters 1 hard 0;"
        + "root p of t letters 1 hard 0;word w from r q r;word x from r r r r;"
        + "speller a passes 0;speller b passes 0;round o toll 0 laps 9 words w w x;");
    int[][] due = {{1, 2, 0}, {1, 2, 0}, {1, 6, 0}, {2, 4, 0}};
    for (int turn = 0; turn < due.length; turn++) {
      bee.go(1);
      for (int root = 0; root < 3; root++) {
        CHECK.same("heard(" + turn % 2 + ", " + root + ") behind the turn " + turn,
            bee.heard(turn % 2, root), due[turn][root]);
      }
    }
  }

  // ---- "If not: orders of appeal of this speller, in their order: if the test holds, and she has her
  //      appeal, she appeals, and no further ones are looked at. If the word is harder than she is strong
  //      by 2 at most, the appeal is granted: that is right, too, but for 1 point alone, and she has not
  //      heard the roots; she keeps her appeal. Otherwise she has lost it."

  private static void appealsByTwoAtMost() {
    // Who knows 9 to 0 of a word that is hard 9: too weak by 0 to 9.
    for (int gap = 0; gap <= 9; gap++) {
      BeeTurnpike bee = Check.taught(list(of(9), of(9 - gap, 0), 0) + "round o toll 0 laps 9 words w0;"
          + "appeal s0 when in s0;");
      bee.go(1);
      String when = "with a gap of " + gap;
      int granted = gap == 1 || gap == 2 ? 1 : 0;
      int lost = gap >= 3 ? 1 : 0;
      CHECK.counts(bee, when, 11, 1 - lost, lost, 0, 0, granted, lost);
      CHECK.same("her appeal " + when, bee.speller(0, 4), 1 - lost);
      CHECK.same("her misses " + when, bee.speller(0, 2), lost);
      // 3 points for a word that is hard 9, but 1 if it was granted.
      CHECK.same("her points " + when, bee.speller(0, 1), gap == 0 ? 3 : granted);
      CHECK.same("heard " + when, bee.heard(0, 0), gap == 0 ? 1 : 0);
      CHECK.same("words spelled rightly " + when, bee.speller(0, 6), 1 - lost);
      CHECK.same("words not spelled rightly " + when, bee.speller(0, 7), lost);
      CHECK.same("how often it was spelled " + when, bee.word(0, 3), 1);
      CHECK.same("how often rightly " + when, bee.word(0, 4), 1 - lost);
    }
  }

  private static void whatAGrantedAppealIs() {
    // She keeps it: granted in each of five laps, a point each, and the root is never heard.
    BeeTurnpike bee = Check.taught(list(of(8), of(6, 8), 0) + "round o toll 0 laps 5 words w0;appeal s0 when in s0;");
    for (int lap = 1; lap <= 4; lap++) {
      bee.go(2);
      CHECK.same("granted in the lap " + lap, bee.count(15), lap);
      CHECK.same("points behind the lap " + lap, bee.speller(0, 1), lap);
      CHECK.same("heard behind the lap " + lap, bee.heard(0, 0), 0);
      CHECK.same("her appeal behind the lap " + lap, bee.speller(0, 4), 1);
      CHECK.same("her misses behind the lap " + lap, bee.speller(0, 2), 0);
    }
  }

  private static void noAppealWithoutHerAppeal() {
    // Lost by 3; then too weak by 2, but she has no appeal left: her second miss.
    BeeTurnpike bee = Check.taught(list(of(9), of(6, 9), 0) + "round o toll 0 laps 9 words w0;appeal s0 when in s0;");
    bee.go(2);
    CHECK.counts(bee, "behind the lost one", 11, 1, 1, 0, 0, 0, 1);
    bee.learn(0, 0, 1);
    bee.go(1);
    CHECK.counts(bee, "without her appeal", 11, 1, 2, 0, 0, 0, 1);
    CHECK.same("in, without her appeal", bee.speller(0, 0), 0);
    // Her orders in one turn: the first one loses it, the second one is not looked at.
    BeeTurnpike twice = Check.taught(list(of(9), of(6, 9), 0) + "round o toll 0 laps 9 words w0;"
        + times(2, "appeal s0 when in s0;"));
    twice.go(1);
    CHECK.counts(twice, "behind two orders that lose", 15, 0, 1);
    // It is not given back in the next round, nor by coming in again.
    BeeTurnpike again = Check.taught(list(of(9), of(0, 0), 0)
        + "round o toll 0 laps 3 words w0;round p toll 0 laps 2 words w0;appeal s0 when in s0;");
    again.go(8);
    CHECK.same("lost once alone", again.count(16), 1);
    CHECK.same("her appeal in the next round", again.speller(0, 4), 0);
  }

  private static void oneAppealInATurn() {
    BeeTurnpike bee = Check.taught(list(of(9), of(8, 9), 0) + "round o toll 0 laps 9 words w0;"
        + times(3, "appeal s0 when in s0;"));
    bee.go(1);
    CHECK.counts(bee, "of three orders", 11, 1, 0, 0, 0, 1, 0);
    CHECK.same("points of three orders", bee.speller(0, 1), 1);
    // Tests that do not hold are gone by.
    BeeTurnpike second = Check.taught(list(of(9), of(8, 9), 0) + "round o toll 0 laps 9 words w0;"
        + "appeal s0 when turn > 0;appeal s0 when turn = 0;");
    second.go(1);
    CHECK.same("granted by the second order", second.count(15), 1);
    BeeTurnpike none = Check.taught(list(of(9), of(8, 9), 0) + "round o toll 0 laps 9 words w0;"
        + "appeal s0 when turn > 0;appeal s1 when turn = 0;");
    none.go(1);
    CHECK.counts(none, "of no order that holds", 11, 0, 1, 0, 0, 0, 0);
    CHECK.same("her appeal without an order that holds", none.speller(0, 4), 1);
  }

  private static void noAppealOfWhoIsRight() {
    BeeTurnpike bee = Check.taught(list(of(8), of(8, 9), 0) + "round o toll 0 laps 9 words w0;appeal s0 when in s0;");
    bee.go(1);
    CHECK.counts(bee, "of one who is right", 11, 1, 0, 0, 0, 0, 0);
    CHECK.same("points of one who is right", bee.speller(0, 1), 3);
    // Right by a hint, and granted by a hint: too weak by 5, then by 2.
    BeeTurnpike hinted = Check.taught(list(of(8), of(3, 9), 0) + "round o toll 0 laps 9 words w0;"
        + "appeal s0 when in s0;hint s0 when in s0;");
    hinted.award(0, 1);
    hinted.go(1);
    CHECK.counts(hinted, "behind a hint", 11, 1, 0, 1, 0, 1, 0);
  }

  // ---- "If it is not right, she has a miss more, and with 2 misses she is out. Then the place is 1
  //      greater."

  private static void outByTwoMisses() {
    BeeTurnpike bee = Check.taught(list(of(9), of(0, 9, 9), 0) + "round o toll 0 laps 9 words w0;");
    CHECK.spellers(bee, "at first", 2, 0, 0, 0);
    bee.go(3);
    CHECK.spellers(bee, "with a miss", 2, 1, 0, 0);
    CHECK.spellers(bee, "with a miss", 0, 1, 1, 1);
    bee.go(1);
    CHECK.spellers(bee, "with two misses", 2, 2, 0, 0);
    CHECK.spellers(bee, "with two misses", 0, 0, 1, 1);
    CHECK.same("left with two misses", bee.count(10), 2);
    CHECK.same("words that she did not spell", bee.speller(0, 7), 2);
  }

  private static void thePlaceBehindATurn() {
    // Right, granted, lost, missed without an appeal, passed on: the last alone leaves the place.
    BeeTurnpike bee = Check.taught(list(of(5, 5, 5, 5, 5, 5), of(5, 4, 0, 0, 0), 1)
        + "round o toll 0 laps 1 words w0 w1 w2 w3 w4 w5;round p toll 0 laps 1 words w5;"
        + "appeal s1 when in s1;appeal s2 when in s2;pass s4 when in s4;");
    words("of each kind", bee, 0, 1, 2, 3, 4, 5);
    BeeTurnpike passed = Check.taught(list(of(5, 5), of(5, 5, 5), 1) + "round o toll 0 laps 2 words w0 w1;"
        + "pass s0 when in s0;pass s1 when in s1;");
    words("of words passed on", passed, 0, 0, 0, 1, 0, 1);
  }

  // ---- "The turn is 1 greater. The next speller on turn is the one who is in with the next greater
  //      number. If there is none, the lap is over (it is gone on with also if she alone is in)"

  private static void theNextGreaterNumber() {
    // s1 and s2 go out in the second lap, s4 in the third one.
    BeeTurnpike bee = Check.taught(list(of(5), of(5, 0, 0, 5, 0), 1) + "round o toll 0 laps 9 words w0;"
        + "pass s4 when in s4;");
    int[] due = {0, 1, 2, 3, 4, 0, 1, 2, 3, 4, 0, 3, 4, 0, 3, 0, 3};
    for (int turn = 0; turn < due.length; turn++) {
      CHECK.same("the speller of the turn " + turn, bee.count(8), due[turn]);
      CHECK.same("turns so far", bee.count(0), turn);
      bee.go(1);
    }
  }

  private static void aloneToTheEndOfALap() {
    // s0 and s1 go out in the second lap; s2, alone, has her turn of it, and the bee is over then.
    BeeTurnpike bee = Check.taught(list(of(9), of(0, 0, 9), 0) + "round o toll 0 laps 9 words w0;");
    bee.go(5);
    CHECK.counts(bee, "with one alone", 7, 0, 2, 0, 1);
    CHECK.same("points ahead of her turn", bee.speller(2, 1), 3);
    CHECK.same("go(60) of one alone", bee.go(60), 1);
    CHECK.same("points behind her turn", bee.speller(2, 1), 6);
    over(bee, "behind her turn");
    // With s0 alone the lap goes on through those who are out: to its end at once.
    BeeTurnpike first = Check.taught(list(of(9), of(9, 0), 0) + "round o toll 0 laps 9 words w0;");
    CHECK.same("go(60) to the second miss of the last", first.go(60), 4);
    over(first, "behind the second miss of the last");
  }

  // ---- "If nobody has spelled rightly in it (also if words were passed on alone), all who went out by
  //      misses in it are in again, with 1 miss."

  private static void inAgainAsNobodyWasRight() {
    BeeTurnpike bee = Check.taught(list(of(9), of(0, 0, 0), 0) + "round o toll 0 laps 9 words w0;");
    bee.go(3);
    CHECK.spellers(bee, "behind the first lap", 2, 1, 1, 1);
    for (int lap = 2; lap <= 8; lap++) {
      String when = "in the lap " + lap;
      bee.go(1);
      CHECK.spellers(bee, "by one turn " + when, 0, 0, 1, 1);
      CHECK.spellers(bee, "by one turn " + when, 2, 2, 1, 1);
      bee.go(1);
      CHECK.spellers(bee, "by two turns " + when, 0, 0, 0, 1);
      CHECK.counts(bee, "by two turns " + when, 8, 2, 0, 1);
      bee.go(1);
      CHECK.spellers(bee, "at the end " + when, 0, 1, 1, 1);
      CHECK.spellers(bee, "at the end " + when, 2, 1, 1, 1);
      CHECK.counts(bee, "at the end " + when, 7, 0, 0, 0, 3, 0, 3 * lap);
    }
  }

  private static void inAgainBehindPassesAlone() {
    // s0 goes out in the second lap, s1 passes on in both: nobody was right.
    BeeTurnpike bee = Check.taught(list(of(9), of(0, 9), 2) + "round o toll 0 laps 9 words w0;pass s1 when in s1;");
    bee.go(3);
    CHECK.spellers(bee, "ahead of the pass", 0, 0, 1);
    bee.go(1);
    CHECK.spellers(bee, "behind the pass", 0, 1, 1);
    CHECK.spellers(bee, "behind the pass", 2, 1, 0);
    CHECK.counts(bee, "behind the pass", 7, 0, 0, 0, 2);
    // By hand, too: a pass by skip() ends the lap.
    BeeTurnpike byHand = Check.taught(list(of(9), of(0, 9), 2) + "round o toll 0 laps 9 words w0;");
    byHand.go(1);
    byHand.skip();
    byHand.go(1);
    CHECK.same("skip() at the end of the lap", byHand.skip(), 0);
    CHECK.spellers(byHand, "behind skip()", 0, 1, 1);
    CHECK.spellers(byHand, "behind skip()", 2, 1, 0);
    // A lap of passes alone: nobody went out, misses stay.
    BeeTurnpike alone = Check.taught(list(of(9), of(0, 0), 1) + "round o toll 0 laps 9 words w0;"
        + "pass s0 when turn = 2;pass s1 when turn = 3;");
    alone.go(4);
    CHECK.spellers(alone, "behind a lap of passes", 0, 1, 1);
    CHECK.spellers(alone, "behind a lap of passes", 2, 1, 1);
    CHECK.counts(alone, "behind a lap of passes", 7, 0, 0, 0, 2, 0, 2, 0, 2);
  }

  private static void outForGoodAsSomebodyWasRight() {
    // Right ahead of who goes out, and behind.
    BeeTurnpike ahead = Check.taught(list(of(9), of(9, 9, 0), 0) + "round o toll 0 laps 9 words w0;");
    ahead.go(6);
    CHECK.spellers(ahead, "as the first one was right", 0, 1, 1, 0);
    CHECK.spellers(ahead, "as the first one was right", 2, 0, 0, 2);
    BeeTurnpike behind = Check.taught(list(of(9), of(0, 9, 9), 0) + "round o toll 0 laps 9 words w0;");
    behind.go(6);
    CHECK.spellers(behind, "as the last one was right", 0, 0, 1, 1);
    CHECK.spellers(behind, "as the last one was right", 2, 2, 0, 0);
    // One right of three is enough, the two others are out.
    BeeTurnpike one = Check.taught(list(of(9), of(0, 9, 0), 0) + "round o toll 0 laps 9 words w0;");
    CHECK.same("go(60) of one who is right", one.go(60), 6);
    CHECK.spellers(one, "as one was right", 0, 0, 1, 0);
  }

  private static void outForGoodAsAnAppealWasGranted() {
    BeeTurnpike bee = Check.taught(list(of(9), of(0, 7, 7), 0) + "round o toll 0 laps 9 words w0;"
        + "appeal s1 when in s1;appeal s2 when turn = 2;");
    bee.go(6);
    CHECK.spellers(bee, "as an appeal was granted", 0, 0, 1, 1);
    CHECK.spellers(bee, "as an appeal was granted", 2, 2, 0, 1);
    // A lost one is not right.
    BeeTurnpike lost = Check.taught(list(of(9), of(0, 6), 0) + "round o toll 0 laps 9 words w0;"
        + "appeal s1 when turn = 3;");
    lost.go(4);
    CHECK.spellers(lost, "as an appeal was lost", 0, 1, 1);
    CHECK.spellers(lost, "as an appeal was lost", 2, 1, 1);
  }

  private static void outInALapBefore() {
    // Turns: s0 misses, s1 and s2 are right; s0 is out, s1 right, s2 misses; s1 misses, s2 is out.
    BeeTurnpike bee = Check.taught(list(of(3, 9), of(0, 3, 3), 0)
        + "round o toll 0 laps 9 words w1 w0 w0 w1 w0 w1 w1 w1;");
    bee.go(6);
    CHECK.spellers(bee, "behind two laps", 0, 0, 1, 1);
    CHECK.spellers(bee, "behind two laps", 2, 2, 0, 1);
    bee.go(2);
    // Nobody was right in the third lap: who went out in it is in again, the other is not.
    CHECK.spellers(bee, "behind three laps", 0, 0, 1, 1);
    CHECK.spellers(bee, "behind three laps", 2, 2, 1, 1);
  }

  private static void outByAToll() {
    // s0 has no point behind the first round; in the second one nobody is right.
    BeeTurnpike bee = Check.taught(list(of(3, 9), of(0, 3, 3), 0)
        + "round o toll 1 laps 1 words w1 w0 w0;round p toll 0 laps 3 words w1;");
    bee.go(3);
    CHECK.spellers(bee, "behind the toll", 0, 0, 1, 1);
    bee.go(4);
    CHECK.spellers(bee, "behind a lap in which nobody was right", 0, 0, 1, 1);
    CHECK.spellers(bee, "behind a lap in which nobody was right", 2, 0, 1, 1);
  }

  private static void rightInTheLapBefore() {
    // Right in the first lap alone; in the second one all miss, and s2 goes out by it.
    BeeTurnpike bee = Check.taught(list(of(0, 9), of(0, 0, 0), 0) + "round o toll 0 laps 9 words w0 w0 w1 w1 w1 w1;");
    bee.go(3);
    CHECK.spellers(bee, "behind the first lap", 2, 0, 0, 1);
    bee.go(3);
    CHECK.spellers(bee, "behind the second lap", 0, 1, 1, 1);
    CHECK.spellers(bee, "behind the second lap", 2, 1, 1, 1);
    // And right in the third lap, as nobody was in the second one: w0, w0 and w1.
    bee.go(3);
    CHECK.spellers(bee, "behind the third lap", 0, 1, 1, 0);
    CHECK.spellers(bee, "behind the third lap", 2, 1, 1, 2);
  }

  // ---- "If fewer than two are in then, the bee is over."

  private static void fewerThanTwoAtTheEndOfALap() {
    BeeTurnpike one = Check.taught(list(of(9), of(0, 0, 9), 0) + "round o toll 7 laps 3 words w0;");
    CHECK.same("go(60) with one who is right", one.go(60), 6);
    over(one, "with one left");
    // No toll is taken, and misses stay.
    CHECK.spellers(one, "with one left", 0, 0, 0, 1);
    CHECK.spellers(one, "with one left", 2, 2, 2, 0);
    // Two are enough.
    BeeTurnpike two = Check.taught(list(of(9), of(0, 9, 9), 0) + "round o toll 7 laps 3 words w0;");
    two.go(6);
    CHECK.counts(two, "with two left", 7, 0, 1, 0, 2);
    CHECK.same("go(60) with two left", two.go(60), 2);
  }

  private static void fewerThanTwoAtTheLastLap() {
    // Of two laps the second one leaves one alone: over by that, ahead of the toll and of the misses.
    BeeTurnpike bee = Check.taught(list(of(9), of(0, 9), 0) + "round o toll 0 laps 2 words w0;"
        + "round p toll 0 laps 2 words w0;");
    CHECK.same("go(60) to one alone at the last lap", bee.go(60), 4);
    over(bee, "with one alone at the last lap");
    CHECK.spellers(bee, "with one alone at the last lap", 2, 2, 0);
    // In again by a lap in which nobody was right, two are in: the round ends, misses are 0.
    BeeTurnpike again = Check.taught(list(of(9), of(0, 0), 0) + "round o toll 0 laps 2 words w0;"
        + "round p toll 0 laps 2 words w0;");
    again.go(4);
    CHECK.counts(again, "behind the last lap", 7, 1, 0, 0, 2);
    CHECK.spellers(again, "behind the last lap", 2, 0, 0);
  }

  // ---- "Otherwise, if the round has had all its laps"

  private static void allItsLaps() {
    for (int laps = 1; laps <= 9; laps++) {
      BeeTurnpike bee = Check.taught(list(of(0), of(0, 0), 0) + "round o toll 0 laps " + laps + " words w0;"
          + "round p toll 0 laps " + laps + " words w0;");
      String when = " of " + laps + " laps";
      bee.go(2 * laps - 1);
      CHECK.same("the round ahead of the last turn" + when, bee.count(7), 0);
      bee.go(1);
      CHECK.same("the round behind the last turn" + when, bee.count(7), 1);
      bee.go(2 * laps - 1);
      CHECK.same("the second round ahead of the last turn" + when, bee.count(7), 1);
      bee.go(1);
      over(bee, "behind all rounds" + when);
    }
  }

  // ---- "those who are in with fewer points than its toll are out, unless that are all who are in"

  /** Spellers with 5, 4 and 6 points behind a lap, the last one but this toll, and a further round. */
  private static BeeTurnpike behindAToll(int toll) {
    BeeTurnpike bee = Check.taught(list(of(0), of(0, 0, 0), 0) + "round o toll " + toll + " laps 1 words w0;"
        + "round p toll 0 laps 1 words w0;");
    bee.award(0, 4);
    bee.award(1, 3);
    bee.award(2, 5);
    bee.go(3);
    CHECK.spellers(bee, "behind the toll of " + toll, 1, 5, 4, 6);
    return bee;
  }

  private static void tollPaidBySome() {
    BeeTurnpike bee = behindAToll(5);
    CHECK.spellers(bee, "with 5 points to a toll of 5", 0, 1, 0, 1);
    CHECK.counts(bee, "with two left by a toll", 7, 1, 0, 0, 2);
    CHECK.same("go(60) with two left by a toll", bee.go(60), 2);
  }

  private static void tollPaidByAll() {
    for (int toll = 0; toll <= 4; toll++) {
      BeeTurnpike bee = behindAToll(toll);
      CHECK.spellers(bee, "by a toll of " + toll, 0, 1, 1, 1);
      CHECK.counts(bee, "by a toll of " + toll, 7, 1, 0, 0, 3);
    }
    // A toll of 0 is paid without a point.
    BeeTurnpike none = Check.taught(list(of(9), of(0, 0), 0) + "round o toll 0 laps 1 words w0;"
        + "round p toll 0 laps 1 words w0;");
    none.go(2);
    CHECK.spellers(none, "by a toll of 0 without a point", 0, 1, 1);
  }

  private static void tollPaidByNone() {
    for (int toll : of(7, 8, 99)) {
      BeeTurnpike bee = behindAToll(toll);
      CHECK.spellers(bee, "by a toll of " + toll, 0, 1, 1, 1);
      CHECK.counts(bee, "by a toll of " + toll, 7, 1, 0, 0, 3);
    }
    // A toll is taken of nobody's points.
    CHECK.spellers(behindAToll(99), "behind a toll of 99", 1, 5, 4, 6);
  }

  private static void tollPaidByOne() {
    BeeTurnpike bee = behindAToll(6);
    CHECK.spellers(bee, "by a toll of 6", 0, 0, 0, 1);
    CHECK.same("left by a toll of 6", bee.count(10), 1);
    over(bee, "by a toll of 6, with a further round");
    // The first one, and the one in the midst, alone.
    for (int rich = 0; rich <= 2; rich++) {
      BeeTurnpike one = Check.taught(list(of(0), of(0, 0, 0), 0) + "round o toll 9 laps 1 words w0;"
          + "round p toll 0 laps 1 words w0;");
      one.award(rich, 8);
      one.go(3);
      String when = "with " + rich + " alone at 9 points";
      CHECK.spellers(one, when, 0, rich == 0 ? 1 : 0, rich == 1 ? 1 : 0, rich == 2 ? 1 : 0);
      over(one, when);
    }
  }

  private static void tollOfThoseWhoAreInAlone() {
    // s0 goes out in the second lap, with 50 points; s1 and s2 have 6 each: all who are in have fewer.
    String list = list(of(9), of(0, 9, 9), 0);
    BeeTurnpike rich = Check.taught(list + "round o toll 7 laps 2 words w0;round p toll 0 laps 1 words w0;");
    rich.award(0, 20);
    rich.award(0, 20);
    rich.award(0, 10);
    rich.go(6);
    CHECK.spellers(rich, "as she who has enough is out", 1, 50, 6, 6);
    CHECK.spellers(rich, "as she who has enough is out", 0, 0, 1, 1);
    CHECK.counts(rich, "as she who has enough is out", 7, 1, 1, 0, 2);
    // Who is out and has enough does not come in by it.
    BeeTurnpike stays = Check.taught(list + "round o toll 6 laps 2 words w0;round p toll 0 laps 1 words w0;");
    stays.award(0, 20);
    stays.go(6);
    CHECK.spellers(stays, "as all who are in have enough", 0, 0, 1, 1);
  }

  // ---- "all misses are 0, of those who are out, too"

  private static void missesBehindARound() {
    String list = list(of(9), of(0, 9, 9, 0), 0);
    // s0 and s3 go out in the second lap, which is the last one of the round.
    BeeTurnpike bee = Check.taught(list + "round o toll 0 laps 2 words w0;round p toll 0 laps 1 words w0;");
    bee.go(7);
    CHECK.spellers(bee, "ahead of the round's end", 2, 2, 0, 0, 1);
    bee.go(1);
    CHECK.spellers(bee, "behind the round", 2, 0, 0, 0, 0);
    CHECK.spellers(bee, "behind the round", 0, 0, 1, 1, 0);
    // Of those who are in with one miss.
    BeeTurnpike one = Check.taught(list + "round o toll 0 laps 1 words w0;round p toll 0 laps 2 words w0;");
    one.go(3);
    CHECK.spellers(one, "ahead of the round's end", 2, 1, 0, 0, 0);
    one.go(1);
    CHECK.spellers(one, "behind the round", 2, 0, 0, 0, 0);
    one.go(1);
    CHECK.spellers(one, "with a miss in the next round", 0, 1, 1, 1, 1);
    CHECK.spellers(one, "with a miss in the next round", 2, 1, 0, 0, 0);
    // As the bee is over by its last round, and by a toll.
    BeeTurnpike last = Check.taught(list + "round o toll 0 laps 1 words w0;");
    last.go(4);
    over(last, "behind the only round");
    CHECK.spellers(last, "behind the only round", 2, 0, 0, 0, 0);
    BeeTurnpike toll = Check.taught(list + "round o toll 4 laps 1 words w0;round p toll 0 laps 1 words w0;");
    toll.award(1, 1);
    toll.go(4);
    over(toll, "by a toll that one has");
    CHECK.spellers(toll, "by a toll that one has", 2, 0, 0, 0, 0);
    // Behind a lap that is not the last one they stay.
    BeeTurnpike lap = Check.taught(list + "round o toll 0 laps 2 words w0;");
    lap.go(4);
    CHECK.spellers(lap, "behind a lap", 2, 1, 0, 0, 1);
  }

  // ---- "if fewer than two are in then, or there is no further round, the bee is over; else the next
  //      round begins, at the place 0."

  private static void theLastRound() {
    StringBuilder list = new StringBuilder(list(of(0), of(0, 0), 0));
    for (int rounds = 1; rounds <= 5; rounds++) {
      list.append("round o").append(rounds).append(" toll 0 laps 1 words w0;");
      BeeTurnpike bee = Check.taught(list.toString());
      for (int round = 0; round < rounds; round++) {
        CHECK.same("the round " + round + " of " + rounds, bee.count(7), round);
        CHECK.same("go(2) in the round " + round, bee.go(2), 2);
      }
      over(bee, "behind " + rounds + " rounds");
      CHECK.same("left behind " + rounds + " rounds", bee.count(10), 2);
    }
    // The toll of the last round is taken, too.
    BeeTurnpike toll = Check.taught(list(of(3), of(3, 0, 3), 0) + "round o toll 1 laps 1 words w0;");
    toll.go(3);
    over(toll, "behind the last toll");
    CHECK.spellers(toll, "behind the last toll", 0, 1, 0, 1);
  }

  private static void placeOfTheNextRound() {
    // Three turns with two words end at the place 1, with four words at the place 3.
    String list = list(of(0, 0, 0, 0), of(0, 0, 0), 0);
    words("of a round of two words", Check.taught(list + "round o toll 0 laps 1 words w0 w1;"
        + "round p toll 0 laps 1 words w2 w3;"), 0, 1, 0, 2, 3, 2, -1);
    words("of a round of four words", Check.taught(list + "round o toll 0 laps 1 words w3 w2 w1 w0;"
        + "round p toll 0 laps 1 words w1;"), 3, 2, 1, 1, 1, 1, -1);
    // Its laps are its own: one of the first round, two of the second one.
    words("of rounds of one lap and two", Check.taught(list + "round o toll 0 laps 1 words w0;"
        + "round p toll 0 laps 2 words w2 w3;"), 0, 0, 0, 2, 3, 2, 3, 2, 3, -1);
  }

  // ---- "In any case the speller with the smallest number who is in is on turn."

  private static void theSmallestNumberWhoIsIn() {
    // Behind a lap: s0, who is in; s1, as s0 is out; s0, as she is in again.
    BeeTurnpike in = Check.taught(list(of(9), of(9, 0, 9), 0) + "round o toll 0 laps 9 words w0;");
    in.go(3);
    CHECK.same("the first one behind a lap", in.count(8), 0);
    BeeTurnpike out = Check.taught(list(of(9), of(0, 9, 9), 0) + "round o toll 0 laps 9 words w0;");
    out.go(6);
    CHECK.same("the first one, as 0 is out", out.count(8), 1);
    BeeTurnpike again = Check.taught(list(of(9), of(0, 0, 0), 0) + "round o toll 0 laps 9 words w0;");
    again.go(6);
    CHECK.same("the first one, as 0 is in again", again.count(8), 0);
    // Behind a round: s0 is out by the toll, and s1, too.
    BeeTurnpike toll = Check.taught(list(of(9), of(0, 9, 9), 0) + "round o toll 1 laps 1 words w0;"
        + "round p toll 0 laps 1 words w0;");
    toll.go(3);
    CHECK.same("the first one, as 0 is out by a toll", toll.count(8), 1);
    BeeTurnpike two = Check.taught(list(of(9), of(0, 0, 9, 9), 0) + "round o toll 1 laps 1 words w0;"
        + "round p toll 0 laps 1 words w0;");
    two.go(4);
    CHECK.same("the first one, as 0 and 1 are out by a toll", two.count(8), 2);
  }

  // ---- "In tests and sums turn is the number of turns so far, left how many are in, points, misses and
  //      passes those of a speller, gap how much harder the word on turn is than this speller is strong at
  //      it (less than 0, if she is stronger ..), hard how hard a word is; in holds, if the speller is,
  //      next, if she is on turn."

  private static void whatTestsTellAtFirst() {
    String list = list(of(5, 8), of(5, 4, 6), 3) + "round o toll 0 laps 9 words w0 w1;";
    String[] due = {"turn = 0", "left = 3", "points s0 = 0", "misses s0 = 0", "passes s0 = 3", "gap s0 = 0",
        "gap s1 = 1", "gap s2 = -1", "hard w0 = 5", "hard w1 = 8", "in s0", "in s2", "next s0", "not next s1"};
    for (String test : due) {
      BeeTurnpike bee = Check.taught(list + "pass s0 when " + test + ";");
      bee.go(1);
      CHECK.same("passes by \"" + test + "\"", bee.count(14), 1);
      BeeTurnpike not = Check.taught(list + "pass s0 when not [" + test + "];");
      not.go(1);
      CHECK.same("passes but for \"" + test + "\"", not.count(14), 0);
    }
  }

  private static void whatTestsTellLater() {
    // s0 is out behind the fifth turn, by her second miss; s1 passed on once, by hand, as the second turn.
    String list = list(of(9), of(0, 9, 9, 9), 3) + "round o toll 0 laps 9 words w0;";
    String[] due = {"turn = 5", "left = 3", "points s0 = 0", "points s2 = 3", "misses s0 = 2", "misses s1 = 0",
        "passes s0 = 3", "passes s1 = 2", "gap s0 = 9", "gap s1 = 0", "gap s2 = -1", "hard w0 = 9", "not in s0",
        "in s1", "next s1", "not next s0", "not next s2"};
    for (String test : due) {
      BeeTurnpike bee = Check.taught(list + "pass s1 when turn > 1 and " + test + ";");
      bee.go(1);
      bee.skip();
      bee.go(3);
      CHECK.same("passes by hand", bee.count(14), 1);
      bee.go(1);
      CHECK.same("passes by \"" + test + "\"", bee.count(14), 2);
      BeeTurnpike not = Check.taught(list + "pass s1 when turn > 1 and not [" + test + "];");
      not.go(1);
      not.skip();
      not.go(4);
      CHECK.same("passes but for \"" + test + "\"", not.count(14), 1);
    }
  }

  private static void gapByHints() {
    // The hints of this turn count in it, for her who is on turn: by 9, by 6, by 3, then wrong by 3.
    String list = list(of(9), of(0, 0), 3) + "round o toll 0 laps 9 words w0;";
    int[] gaps = {9, 6, 3};
    for (int hints = 0; hints <= 2; hints++) {
      BeeTurnpike bee = Check.taught(list + "pass s0 when gap s0 = " + gaps[hints] + " and gap s1 = 9;");
      bee.award(0, 2);
      for (int n = 0; n < hints; n++) {
        bee.hint();
      }
      bee.go(1);
      CHECK.same("passes by a gap with " + hints + " hints", bee.count(14), 1);
    }
    // And as she appeals: too weak by 4, by 1 with a hint.
    BeeTurnpike appeal = Check.taught(list(of(9), of(5, 0), 0) + "round o toll 0 laps 9 words w0;"
        + "appeal s0 when gap s0 = 1;hint s0 when gap s0 = 4;");
    appeal.award(0, 1);
    appeal.go(1);
    CHECK.same("granted behind a hint", appeal.count(15), 1);
  }

  // ---- "Both sides of and and or are reckoned; and binds more than or, not more than and."

  private static void andBindsMoreThanOr() {
    // T holds, F does not; passes s0 where the test holds.
    String[] hold = {"T or F and F", "F and F or T", "T or T and F", "F or T and T", "T and T or F and F",
        "not F and T", "not F or F", "not T or T", "not F and not F", "not [T and F]", "not [F or F]",
        "[T or F] and T", "T and T and T", "F or F or T", "not not T", "not T and F or T", "F and T or T and T"};
    String[] fail = {"[T or F] and F", "F and [F or T]", "[T or T] and F", "not T and F", "not T or F",
        "not [T or F]", "not [T and T]", "not not F", "T and T and F", "F and T and T", "F or F or F", "not F and F",
        "F or T and F", "T and F or F and T", "not [F or T] and T"};
    for (String test : hold) {
      both(test, 1);
    }
    for (String test : fail) {
      both(test, 0);
    }
  }

  private static void both(String test, int due) {
    String said = test.replace("T", "in s0").replace("F", "next s1");
    BeeTurnpike bee = Check.taught(list(of(9), of(0, 0), 1) + "round o toll 0 laps 9 words w0;"
        + "pass s0 when " + said + ";");
    bee.go(1);
    CHECK.same("passes by \"" + test + "\"", bee.count(14), due);
  }

  // ---- "Ranks: who is in goes ahead of who is out; of these who has more points; of as many the smaller
  //      number. The first one has the rank 0."

  private static void ranks() {
    BeeTurnpike bee = Check.taught(list(of(9), of(0, 9, 9, 0, 0), 0) + "round o toll 0 laps 9 words w0;");
    CHECK.spellers(bee, "of as many points", 8, 0, 1, 2, 3, 4);
    bee.award(2, 1);
    CHECK.spellers(bee, "with a point of 2", 8, 1, 2, 0, 3, 4);
    bee.award(4, 1);
    CHECK.spellers(bee, "with a point of 4, too", 8, 2, 3, 0, 4, 1);
    bee.award(4, 1);
    CHECK.spellers(bee, "with two points of 4", 8, 2, 3, 1, 4, 0);
    bee.award(0, 20);
    bee.award(3, 20);
    CHECK.spellers(bee, "with twenty points of 0 and 3", 8, 0, 4, 3, 1, 2);
    // s0, s3 and s4 go out in the second lap: behind who is in, and by their points among them.
    bee.go(9);
    CHECK.spellers(bee, "with 0 and 3 out", 0, 0, 1, 1, 0, 1);
    CHECK.spellers(bee, "with 0 and 3 out", 1, 20, 6, 7, 20, 2);
    CHECK.spellers(bee, "with 0 and 3 out", 8, 3, 1, 0, 4, 2);
    bee.award(3, 1);
    CHECK.spellers(bee, "with a point more of 3, who is out", 8, 4, 1, 0, 3, 2);
    bee.award(1, 1);
    CHECK.spellers(bee, "of as many points of 1 and 2", 8, 4, 0, 1, 3, 2);
  }
}
