import java.math.BigInteger;

/** The boundaries of the document's promises 1 to 24; a comment quotes each sentence. */
public final class EdgesOfPromisesTest extends Lists {
  private static final Check CHECK = new Check("EdgesOfPromisesTest");
  private static final Class<IllegalStateException> STATE = IllegalStateException.class;
  private static final Class<IllegalArgumentException> ARGUMENT = IllegalArgumentException.class;
  private static final Class<IndexOutOfBoundsException> INDEX = IndexOutOfBoundsException.class;
  private static final int LEAST = Integer.MIN_VALUE;
  private static final int MOST = Integer.MAX_VALUE;
  private static final int BLANKS = 0x20202020;

  // 2 tongues, 4 roots, 3 words, 3 spellers, 1 round, 2 orders.
  private static final String LIST = "tongue t ease 1;tongue u ease 2;"
      + "root p of t letters 4 hard 2;root q of u letters 3 hard 1;root r of u letters 1 hard 0;"
      + "root s of t letters 9 hard 9;word w from p q;word x from r;word v from r q r;"
      + "speller a passes 1 knows t 3;speller b passes 0 knows t 4 knows u 20;speller c passes 2;"
      + "round o toll 2 laps 4 words w x v;hint a when turn = 3;appeal c when misses c = 1;";

  public static void main(String[] args) {
    refusalsChangeNothing();
    theFirstNamedIsThrown();
    aNewObject();
    feedUpTo2000();
    feedTheHighestByteFirst();
    trimFrom0ToTheBytes();
    teachAnswers0To5();
    teachBeginsAnew();
    teachBeginsAnewInTheMidst();
    teachWithAnErrorLeavesAll();
    errorAtMinusOne();
    countFrom0To17();
    countMinusOne();
    countInAll();
    rootsFrom0();
    wordsFrom0();
    partsFrom0();
    spellersFrom0();
    knowsFrom0();
    heardFrom0();
    strongFrom0();
    nothingOfNone();
    hintAsTheBeeIsOver();
    hintsUpTo2();
    hintsDownToNoPoint();
    skipAsTheBeeIsOver();
    skipsDownToNoPass();
    skipToTheEnd();
    learnBy1To9();
    learnUpTo20();
    learnAsTheBeeIsOver();
    award1To20();
    awardAsTheBeeIsOver();
    go1To60();
    goAsTheBeeIsOver();
    foreseeEdges();
    foreseeAsTheBeeIsOver();
    foreseeChangesNothing();
    foreseeInTheMidst();
    untilNow();
    untilTheEnd();
    untilFarAway();
    untilOutForTheFirstTime();
    untilAsTheBeeIsOver();
    untilRefuses();
    winnerWithoutSpellers();
    winnerAsTheBeeIsOver();
    winnerIfNothingIsDoneByHand();
    adviseAsTheBeeIsOver();
    adviseEachChoice();
    adviseTheSmallestOfSeveral();
    adviseWhatSheCanDo();
    advisePassOfTheLast();
    adviseHintOfTheLastPoint();
    adviseOfWhoIsNotTheFirst();
    adviseChangesNothing();
    meanOfNone();
    meanOfAll();
    digestOfNothing();
    digestOfAll();
    CHECK.end();
  }

  private static void over(BeeTurnpike bee, String when) {
    CHECK.counts(bee, when, 7, -1, -1, -1);
  }

  // ---- "A method that throws an exception changes nothing. If several exceptions apply, the one that is
  //      named first is thrown."

  private static void refusalsChangeNothing() {
    BeeTurnpike bee = new BeeTurnpike();
    BeeTurnpike twin = new BeeTurnpike();
    for (BeeTurnpike each : new BeeTurnpike[] {bee, twin}) {
      Check.teach(each, LIST);
      Check.teach(each, "tongue t ease 10;");
      each.award(0, 5);
      each.hint();
      each.hint();
    }
    for (int stage = 0; stage <= 6; stage++) {
      refuseAll(bee, stage);
      String when = " in the stage " + stage;
      CHECK.same("errorAt()" + when, bee.errorAt(), twin.errorAt());
      CHECK.same("digest()" + when, bee.digest(), twin.digest());
      for (int s = 0; s < 3; s++) {
        CHECK.same("strong(" + s + ", 0)" + when, bee.strong(s, 0), twin.strong(s, 0));
        CHECK.same("until(" + s + ")" + when, bee.until(s), twin.until(s));
      }
      CHECK.same("winner()" + when, bee.winner(), twin.winner());
      CHECK.same("advise()" + when, bee.advise(), twin.advise());
      CHECK.same("foresee(60, 11)" + when, bee.foresee(60, 11), twin.foresee(60, 11));
      CHECK.same("go(2)" + when, bee.go(2), twin.go(2));
    }
  }

  private static void refuseAll(BeeTurnpike bee, int stage) {
    // In the first stage hints are taken and the first speller is on turn; later nobody who can.
    CHECK.throwing("trim(-1)", ARGUMENT, () -> bee.trim(-1));
    CHECK.throwing("trim(1)", ARGUMENT, () -> bee.trim(1));
    CHECK.throwing("count(18)", INDEX, () -> bee.count(18));
    CHECK.throwing("root(4, 0)", INDEX, () -> bee.root(4, 0));
    CHECK.throwing("word(0, 5)", INDEX, () -> bee.word(0, 5));
    CHECK.throwing("part(1, 1)", INDEX, () -> bee.part(1, 1));
    CHECK.throwing("speller(3, 0)", INDEX, () -> bee.speller(3, 0));
    CHECK.throwing("knows(0, 2)", INDEX, () -> bee.knows(0, 2));
    CHECK.throwing("heard(0, 4)", INDEX, () -> bee.heard(0, 4));
    CHECK.throwing("strong(0, 3)", INDEX, () -> bee.strong(0, 3));
    if (stage == 0) {
      CHECK.throwing("hint(), the third", STATE, () -> bee.hint());
    }
    CHECK.throwing("learn(3, 0, 1)", INDEX, () -> bee.learn(3, 0, 1));
    CHECK.throwing("learn(0, 2, 1)", INDEX, () -> bee.learn(0, 2, 1));
    CHECK.throwing("learn(0, 0, 0)", ARGUMENT, () -> bee.learn(0, 0, 0));
    CHECK.throwing("learn(0, 0, 10)", ARGUMENT, () -> bee.learn(0, 0, 10));
    CHECK.throwing("award(3, 1)", INDEX, () -> bee.award(3, 1));
    CHECK.throwing("award(0, 0)", ARGUMENT, () -> bee.award(0, 0));
    CHECK.throwing("award(0, 21)", ARGUMENT, () -> bee.award(0, 21));
    CHECK.throwing("go(0)", ARGUMENT, () -> bee.go(0));
    CHECK.throwing("go(61)", ARGUMENT, () -> bee.go(61));
    CHECK.throwing("foresee(0, 10)", ARGUMENT, () -> bee.foresee(0, 10));
    CHECK.throwing("foresee(1, 17)", INDEX, () -> bee.foresee(1, 17));
    CHECK.throwing("until(3)", INDEX, () -> bee.until(3));
  }

  private static void theFirstNamedIsThrown() {
    BeeTurnpike bee = Check.taught(LIST);
    for (int by : of(0, 10, -1, LEAST, MOST)) {
      CHECK.refused(bee, "learn(3, 0, " + by + ")", INDEX, () -> bee.learn(3, 0, by));
      CHECK.refused(bee, "learn(0, 2, " + by + ")", INDEX, () -> bee.learn(0, 2, by));
      CHECK.refused(bee, "learn(-1, -1, " + by + ")", INDEX, () -> bee.learn(-1, -1, by));
    }
    for (int points : of(0, 21, -1, LEAST, MOST)) {
      CHECK.refused(bee, "award(3, " + points + ")", INDEX, () -> bee.award(3, points));
      CHECK.refused(bee, "award(-1, " + points + ")", INDEX, () -> bee.award(-1, points));
    }
    for (int turns : of(0, 61, -1, LEAST, MOST)) {
      CHECK.refused(bee, "foresee(" + turns + ", 9)", ARGUMENT, () -> bee.foresee(turns, 9));
      CHECK.refused(bee, "foresee(" + turns + ", 17)", ARGUMENT, () -> bee.foresee(turns, 17));
    }
  }

  // ---- Promise 1: "Creates a bee without words and spellers, which is over."

  private static void aNewObject() {
    BeeTurnpike bee = new BeeTurnpike();
    CHECK.counts(bee, "of a new one", 0, 0, 0, 0, 0, 0, 0, 0, -1, -1, -1, 0, 0, 0, 0, 0, 0, 0, 0);
    CHECK.same("errorAt() of a new one", bee.errorAt(), -1);
    CHECK.same("go(60) of a new one", bee.go(60), 0);
    CHECK.same("foresee(60, 10) of a new one", bee.foresee(60, 10), 0);
    CHECK.same("winner() of a new one", bee.winner(), -1);
    CHECK.same("advise() of a new one", bee.advise(), -1);
    CHECK.same("mean() of a new one", bee.mean(), 0.0);
    CHECK.refused(bee, "hint() of a new one", STATE, () -> bee.hint());
    CHECK.refused(bee, "skip() of a new one", STATE, () -> bee.skip());
    // Two of them are not one.
    BeeTurnpike other = Check.taught(LIST);
    CHECK.same("spellers of the other one", other.count(4), 3);
    CHECK.same("spellers of the new one", bee.count(4), 0);
  }

  // ---- Promise 2: "Appends twenty bytes to the tape: the four bytes of each number, the highest one
  //      first. .. Returns the number of bytes of the tape. Throws IllegalStateException if there would be
  //      more than 2000"

  private static void feedUpTo2000() {
    for (int length : of(0, 1, 19, 1960, 1979, 1980)) {
      BeeTurnpike bee = full(length);
      CHECK.same("feed() to " + length, bee.feed(BLANKS, BLANKS, BLANKS, BLANKS, BLANKS), length + 20);
      CHECK.same("bytes behind it", bee.count(17), length + 20);
    }
    for (int length : of(1981, 1982, 1999, 2000)) {
      BeeTurnpike bee = full(length);
      CHECK.refused(bee, "feed() to " + length, STATE, () -> bee.feed(0, 0, 0, 0, 0));
      CHECK.same("bytes behind it", bee.count(17), length);
      // Not a part of it was appended: the tape is blanks alone.
      CHECK.same("teach() behind a refused feed() to " + length, bee.teach(), 0);
    }
  }

  /** A bee with so many blanks on its tape. */
  private static BeeTurnpike full(int length) {
    BeeTurnpike bee = new BeeTurnpike();
    for (int n = 0; n < 100; n++) {
      bee.feed(BLANKS, BLANKS, BLANKS, BLANKS, BLANKS);
    }
    CHECK.same("trim(" + length + ")", bee.trim(length), length);
    return bee;
  }

  private static void feedTheHighestByteFirst() {
    // A byte that is no blank, at each of the twenty places: 33, and 255, by which a number is negative.
    for (int sign : of(33, 128, 255)) {
      for (int place = 0; place < 20; place++) {
        int[] numbers = {BLANKS, BLANKS, BLANKS, BLANKS, BLANKS};
        int shift = 24 - 8 * (place % 4);
        numbers[place / 4] = BLANKS & ~(255 << shift) | sign << shift;
        BeeTurnpike bee = new BeeTurnpike();
        bee.feed(BLANKS, BLANKS, BLANKS, BLANKS, BLANKS);
        bee.feed(numbers[0], numbers[1], numbers[2], numbers[3], numbers[4]);
        CHECK.same("teach() with " + sign + " at " + place, bee.teach(), 1);
        CHECK.same("errorAt() with " + sign + " at " + place, bee.errorAt(), 20 + place);
      }
    }
    // "tong" "ue a" "bc e" "ase " "7;" and two blanks: 7 and ; in the highest bytes.
    BeeTurnpike bee = new BeeTurnpike();
    bee.feed(0x746f6e67, 0x75652061, 0x62632065, 0x61736520, 0x373b2020);
    CHECK.same("teach() of twenty bytes", bee.teach(), 0);
    CHECK.same("tongues of twenty bytes", bee.count(1), 1);
  }

  // ---- Promise 3: "Throws IllegalArgumentException if n is not 0 to the number of bytes of the tape"

  private static void trimFrom0ToTheBytes() {
    for (int length : of(0, 1, 20, 1999, 2000)) {
      BeeTurnpike bee = full(length);
      for (int n : of(-1, LEAST, length + 1, 2001, MOST)) {
        CHECK.refused(bee, "trim(" + n + ") of " + length, ARGUMENT, () -> bee.trim(n));
        CHECK.same("bytes behind trim(" + n + ")", bee.count(17), length);
      }
      CHECK.same("trim() to all of " + length, bee.trim(length), length);
      CHECK.same("bytes behind it", bee.count(17), length);
      CHECK.same("trim(0) of " + length, bee.trim(0), 0);
      CHECK.same("bytes behind trim(0)", bee.count(17), 0);
      CHECK.refused(bee, "trim(1) behind trim(0)", ARGUMENT, () -> bee.trim(1));
    }
    // The first bytes are kept: what is fed then stands behind them.
    BeeTurnpike bee = new BeeTurnpike();
    Check.feed(bee, "tongue a ease 1;tongue a ease 1;");
    CHECK.same("trim(16)", bee.trim(16), 16);
    CHECK.same("feed() behind trim(16)", bee.feed(BLANKS, BLANKS, BLANKS, BLANKS, BLANKS), 36);
    CHECK.same("teach() of what was kept", bee.teach(), 0);
    CHECK.same("tongues of what was kept", bee.count(1), 1);
  }

  // ---- Promise 4: "Reads the tape as a list, in the place of all that was told before; the bee begins
  //      anew, with no turns so far. If it has an error, all stays (but the tape is empty). Returns 0, or
  //      the error, 1 to 5."

  private static final String[] WRONG = {"tongue t ease", "tongue t ease 1;tongue t ease 1;", "word w from r;",
      "tongue a ease 1;tongue b ease 1;tongue c ease 1;tongue d ease 1;tongue e ease 1;tongue f ease 1;",
      "tongue t ease 10;"};
  private static final int[] WRONG_AT = {13, 23, 12, 87, 14};

  private static void teachAnswers0To5() {
    BeeTurnpike bee = new BeeTurnpike();
    CHECK.same("teach() of a fine list", Check.teach(bee, LIST), 0);
    for (int i = 0; i < 5; i++) {
      CHECK.same("teach() of \"" + WRONG[i] + "\"", Check.teach(bee, WRONG[i]), i + 1);
      CHECK.same("errorAt() of \"" + WRONG[i] + "\"", bee.errorAt(), WRONG_AT[i]);
    }
  }

  private static void teachBeginsAnew() {
    BeeTurnpike bee = Check.taught(LIST);
    long first = bee.digest();
    for (int turns = 0; turns <= 12; turns++) {
      bee.award(0, 20);
      bee.learn(2, 1, 9);
      bee.hint();
      if (turns > 0) {
        bee.go(turns);
      }
      CHECK.same("teach() behind " + turns + " turns", Check.teach(bee, LIST), 0);
      CHECK.same("turns behind teach()", bee.count(0), 0);
      CHECK.same("digest() behind teach()", bee.digest(), first);
      // By the tongue u, of which a knows nothing; b and c will be right.
      CHECK.same("strong(0, 0) behind teach()", bee.strong(0, 0), 2);
      CHECK.same("foresee(3, 11) behind teach()", bee.foresee(3, 11), 2);
    }
    // In the place of all: a list of one tongue leaves no word, no speller, no round.
    Check.teach(bee, "tongue t ease 1;");
    CHECK.counts(bee, "of one tongue", 0, 0, 1, 0, 0, 0, 0, 0, -1, -1, -1, 0);
  }

  private static void teachBeginsAnewInTheMidst() {
    // w0 is right for s1 alone; s0 and s2 miss, and go out by it in the second lap; then the second round.
    String list = list(of(9, 3), of(0, 9, 0), 1) + "round o toll 0 laps 2 words w0;round p toll 0 laps 1 words w1;";
    String easy = list.replace("knows t 0", "knows t 9");
    for (String next : new String[] {list, easy}) {
      for (int turns = 0; turns <= 12; turns++) {
        BeeTurnpike bee = Check.taught(turns % 2 == 0 ? list : easy);
        if (turns > 0) {
          bee.go(turns);
        }
        Check.teach(bee, next);
        BeeTurnpike fresh = Check.taught(next);
        for (int turn = 0; turn <= 9; turn++) {
          String when = " behind " + turns + " turns, teach() and " + turn;
          CHECK.same("digest()" + when, bee.digest(), fresh.digest());
          CHECK.same("go(1)" + when, bee.go(1), fresh.go(1));
        }
      }
    }
    // Out in a lap that did not end, and a right word in it: nothing of that is in the lap that begins anew.
    BeeTurnpike out = Check.taught(list(of(9), of(0, 0), 1) + "round o toll 0 laps 9 words w0;");
    out.go(3);
    CHECK.spellers(out, "in the midst of a lap", 0, 0, 1);
    Check.teach(out, list(of(9), of(0, 0), 1) + "round o toll 0 laps 9 words w0;");
    out.skip();
    out.skip();
    CHECK.spellers(out, "behind a lap of passes", 2, 0, 0);
    BeeTurnpike right = Check.taught(list(of(9), of(9, 0), 1) + "round o toll 0 laps 9 words w0;");
    right.go(1);
    Check.teach(right, list(of(9), of(0, 0), 1) + "round o toll 0 laps 9 words w0;");
    right.go(2);
    right.go(2);
    CHECK.spellers(right, "behind two laps in which nobody was right", 0, 1, 1);
    Check.teach(right, list(of(9), of(9, 0), 1) + "round o toll 0 laps 9 words w0;");
    right.go(3);
    Check.teach(right, list(of(9), of(0, 0), 1) + "round o toll 0 laps 9 words w0;");
    right.skip();
    right.go(3);
    CHECK.spellers(right, "behind a pass and three misses", 0, 1, 1);
  }

  private static void teachWithAnErrorLeavesAll() {
    for (int i = 0; i < 5; i++) {
      BeeTurnpike bee = Check.taught(LIST);
      BeeTurnpike twin = Check.taught(LIST);
      for (BeeTurnpike each : new BeeTurnpike[] {bee, twin}) {
        each.award(1, 3);
        each.learn(1, 0, 2);
        each.go(1);
        each.hint();
      }
      for (int turn = 1; turn <= 9; turn++) {
        CHECK.same("teach() with the error " + (i + 1), Check.teach(bee, WRONG[i]), i + 1);
        CHECK.same("bytes behind it", bee.count(17), 0);
        CHECK.same("digest() behind it", bee.digest(), twin.digest());
        CHECK.same("strong(1, 1) behind it", bee.strong(1, 1), twin.strong(1, 1));
        CHECK.same("go(1) behind it", bee.go(1), twin.go(1));
      }
    }
  }

  // ---- Promise 5: "Returns the position of the error of the latest teach(); -1 if it had none, or there
  //      was none."

  private static void errorAtMinusOne() {
    BeeTurnpike bee = new BeeTurnpike();
    CHECK.same("errorAt() ahead of all", bee.errorAt(), -1);
    Check.feed(bee, "!");
    CHECK.same("errorAt() ahead of teach()", bee.errorAt(), -1);
    bee.teach();
    CHECK.same("errorAt() at the first byte", bee.errorAt(), 0);
    bee.feed(BLANKS, BLANKS, BLANKS, BLANKS, BLANKS);
    CHECK.same("errorAt() behind feed()", bee.errorAt(), 0);
    CHECK.same("teach() of blanks", bee.teach(), 0);
    CHECK.same("errorAt() behind a fine one", bee.errorAt(), -1);
    Check.teach(bee, "tongue");
    CHECK.same("errorAt() of the latest", bee.errorAt(), 6);
    Check.teach(bee, "tongue t");
    CHECK.same("errorAt() of the latest of two", bee.errorAt(), 8);
    CHECK.same("teach() of nothing", bee.teach(), 0);
    CHECK.same("errorAt() of nothing", bee.errorAt(), -1);
  }

  // ---- Promise 6: "Throws IndexOutOfBoundsException if what is not 0 to 17"; "-1 for each of these
  //      three, if the bee is over"

  private static void countFrom0To17() {
    BeeTurnpike bee = Check.taught(LIST);
    Check.feed(bee, "abc");
    CHECK.counts(bee, "of a list", 0, 0, 2, 4, 3, 3, 1, 2, 0, 0, 0, 3, 0, 0, 0, 0, 0, 0, 3);
    for (int what : of(-1, 18, LEAST, MOST)) {
      CHECK.refused(bee, "count(" + what + ")", INDEX, () -> bee.count(what));
    }
  }

  private static void countMinusOne() {
    // Over from the first; the last turn ahead of it, and behind it.
    over(Check.taught("speller a passes 0;"), "of one speller");
    over(Check.taught("speller a passes 0;speller b passes 0;"), "without a round");
    BeeTurnpike bee = Check.taught(list(of(0, 0), of(0, 0), 0) + "round o toll 0 laps 1 words w1;"
        + "round p toll 0 laps 1 words w0 w1;");
    CHECK.counts(bee, "at first", 7, 0, 0, 1);
    bee.go(3);
    CHECK.counts(bee, "ahead of the last turn", 7, 1, 1, 1);
    bee.go(1);
    over(bee, "behind the last turn");
  }

  // s0 takes two hints and is right, s1 is granted an appeal, s2 loses one, s3 passes, s4 misses.
  private static final String OF_EACH_KIND = list(of(9), of(3, 8, 0, 0, 0), 1) + "round o toll 0 laps 9 words w0;"
      + "hint s0 when turn = 0;hint s0 when turn = 0;appeal s1 when in s1;appeal s2 when in s2;"
      + "pass s3 when turn = 3;";
  private static final int[][] IN_ALL = {{5, 1, 0, 2, 0, 0, 0}, {5, 2, 0, 2, 0, 1, 0}, {5, 2, 1, 2, 0, 1, 1},
      {5, 2, 1, 2, 1, 1, 1}, {5, 2, 2, 2, 1, 1, 1}};

  private static void countInAll() {
    BeeTurnpike bee = Check.taught(OF_EACH_KIND);
    bee.award(0, 2);
    for (int turn = 0; turn < IN_ALL.length; turn++) {
      bee.go(1);
      CHECK.counts(bee, "behind the turn " + turn, 10, IN_ALL[turn]);
    }
    // By hand, too: a hint of s0 and a pass of s1 (s0 misses by 3, as she has heard the root once).
    bee.hint();
    bee.go(1);
    bee.skip();
    CHECK.counts(bee, "behind a hint and a pass by hand", 10, 5, 2, 3, 3, 2, 1, 1);
    bee.go(1);
    // s2 is out by her second miss; all that was counted stays.
    CHECK.counts(bee, "with one out", 10, 4, 2, 4, 3, 2, 1, 1);
  }

  // ---- Promise 7: "Throws IndexOutOfBoundsException if there is no such root, or what is not 0 to 4"

  private static void rootsFrom0() {
    BeeTurnpike bee = Check.taught(LIST);
    int[][] due = {{0, 4, 2, 1, 1}, {1, 3, 1, 2, 2}, {1, 1, 0, 2, 2}, {0, 9, 9, 1, 0}};
    for (int root = 0; root < 4; root++) {
      for (int what = 0; what <= 4; what++) {
        CHECK.same("root(" + root + ", " + what + ")", bee.root(root, what), due[root][what]);
      }
    }
    for (int x : of(-1, 4, LEAST, MOST)) {
      CHECK.refused(bee, "root(" + x + ", 0)", INDEX, () -> bee.root(x, 0));
      CHECK.refused(bee, "root(" + x + ", 4)", INDEX, () -> bee.root(x, 4));
    }
    for (int x : of(-1, 5, LEAST, MOST)) {
      CHECK.refused(bee, "root(0, " + x + ")", INDEX, () -> bee.root(0, x));
      CHECK.refused(bee, "root(3, " + x + ")", INDEX, () -> bee.root(3, x));
    }
  }

  // ---- Promise 8: "Throws IndexOutOfBoundsException if there is no such word, or what is not 0 to 4"

  private static void wordsFrom0() {
    BeeTurnpike bee = Check.taught(LIST);
    // Hard 2 and 1 and a fourth of 7; 0 and a fourth of 1; 0, 1, 0 and a fourth of 5.
    int[][] due = {{2, 7, 4, 0, 0}, {1, 1, 0, 0, 0}, {3, 5, 2, 0, 0}};
    for (int word = 0; word < 3; word++) {
      for (int what = 0; what <= 4; what++) {
        CHECK.same("word(" + word + ", " + what + ")", bee.word(word, what), due[word][what]);
      }
    }
    for (int x : of(-1, 3, LEAST, MOST)) {
      CHECK.refused(bee, "word(" + x + ", 0)", INDEX, () -> bee.word(x, 0));
      CHECK.refused(bee, "word(" + x + ", 4)", INDEX, () -> bee.word(x, 4));
    }
    for (int x : of(-1, 5, LEAST, MOST)) {
      CHECK.refused(bee, "word(0, " + x + ")", INDEX, () -> bee.word(0, x));
      CHECK.refused(bee, "word(2, " + x + ")", INDEX, () -> bee.word(2, x));
    }
  }

  // ---- Promise 9: "Throws IndexOutOfBoundsException if there is no such word or place"

  private static void partsFrom0() {
    BeeTurnpike bee = Check.taught(LIST + "word y from p q r s;");
    int[][] due = {{0, 1}, {2}, {2, 1, 2}, {0, 1, 2, 3}};
    for (int word = 0; word < 4; word++) {
      for (int place = 0; place < due[word].length; place++) {
        CHECK.same("part(" + word + ", " + place + ")", bee.part(word, place), due[word][place]);
      }
      int which = word;
      for (int x : of(-1, due[word].length, LEAST, MOST)) {
        CHECK.refused(bee, "part(" + word + ", " + x + ")", INDEX, () -> bee.part(which, x));
      }
    }
    for (int x : of(-1, 4, LEAST, MOST)) {
      CHECK.refused(bee, "part(" + x + ", 0)", INDEX, () -> bee.part(x, 0));
    }
    CHECK.refused(bee, "part(4, 4)", INDEX, () -> bee.part(4, 4));
  }

  // ---- Promise 10: "Throws IndexOutOfBoundsException if there is no such speller, or what is not 0 to 8"

  private static void spellersFrom0() {
    BeeTurnpike bee = Check.taught(LIST);
    int[][] due = {{1, 0, 0, 1, 1, 0, 0, 0, 0}, {1, 0, 0, 0, 1, 0, 0, 0, 1}, {1, 0, 0, 2, 1, 0, 0, 0, 2}};
    for (int s = 0; s < 3; s++) {
      for (int what = 0; what <= 8; what++) {
        CHECK.same("speller(" + s + ", " + what + ")", bee.speller(s, what), due[s][what]);
      }
    }
    for (int x : of(-1, 3, LEAST, MOST)) {
      CHECK.refused(bee, "speller(" + x + ", 0)", INDEX, () -> bee.speller(x, 0));
      CHECK.refused(bee, "speller(" + x + ", 8)", INDEX, () -> bee.speller(x, 8));
    }
    for (int x : of(-1, 9, LEAST, MOST)) {
      CHECK.refused(bee, "speller(0, " + x + ")", INDEX, () -> bee.speller(0, x));
      CHECK.refused(bee, "speller(2, " + x + ")", INDEX, () -> bee.speller(2, x));
    }
  }

  // ---- Promises 11, 12 and 13: "Throws IndexOutOfBoundsException if there is no such speller or tongue"
  //      (or root; or word)

  private static void knowsFrom0() {
    BeeTurnpike bee = Check.taught(LIST);
    int[][] due = {{3, 0}, {4, 20}, {0, 0}};
    for (int s = 0; s < 3; s++) {
      for (int tongue = 0; tongue < 2; tongue++) {
        CHECK.same("knows(" + s + ", " + tongue + ")", bee.knows(s, tongue), due[s][tongue]);
      }
    }
    for (int x : of(-1, 3, LEAST, MOST)) {
      CHECK.refused(bee, "knows(" + x + ", 0)", INDEX, () -> bee.knows(x, 0));
      CHECK.refused(bee, "knows(" + x + ", 1)", INDEX, () -> bee.knows(x, 1));
    }
    for (int x : of(-1, 2, LEAST, MOST)) {
      CHECK.refused(bee, "knows(0, " + x + ")", INDEX, () -> bee.knows(0, x));
      CHECK.refused(bee, "knows(2, " + x + ")", INDEX, () -> bee.knows(2, x));
    }
  }

  private static void heardFrom0() {
    BeeTurnpike bee = Check.taught(LIST);
    // a misses w, b is right at x, c, who knows u by 0 and 2, is right at v: r twice and q once.
    bee.go(3);
    int[][] due = {{0, 0, 0, 0}, {0, 0, 1, 0}, {0, 1, 2, 0}};
    for (int s = 0; s < 3; s++) {
      for (int root = 0; root < 4; root++) {
        CHECK.same("heard(" + s + ", " + root + ")", bee.heard(s, root), due[s][root]);
      }
    }
    for (int x : of(-1, 3, LEAST, MOST)) {
      CHECK.refused(bee, "heard(" + x + ", 0)", INDEX, () -> bee.heard(x, 0));
      CHECK.refused(bee, "heard(" + x + ", 3)", INDEX, () -> bee.heard(x, 3));
    }
    for (int x : of(-1, 4, LEAST, MOST)) {
      CHECK.refused(bee, "heard(0, " + x + ")", INDEX, () -> bee.heard(0, x));
      CHECK.refused(bee, "heard(2, " + x + ")", INDEX, () -> bee.heard(2, x));
    }
  }

  private static void strongFrom0() {
    BeeTurnpike bee = Check.taught(LIST);
    int[][] due = {{2, 2, 2}, {5, 22, 22}, {1, 2, 2}};
    for (int s = 0; s < 3; s++) {
      for (int word = 0; word < 3; word++) {
        CHECK.same("strong(" + s + ", " + word + ")", bee.strong(s, word), due[s][word]);
      }
    }
    for (int x : of(-1, 3, LEAST, MOST)) {
      CHECK.refused(bee, "strong(" + x + ", 0)", INDEX, () -> bee.strong(x, 0));
      CHECK.refused(bee, "strong(" + x + ", 2)", INDEX, () -> bee.strong(x, 2));
      CHECK.refused(bee, "strong(0, " + x + ")", INDEX, () -> bee.strong(0, x));
      CHECK.refused(bee, "strong(2, " + x + ")", INDEX, () -> bee.strong(2, x));
    }
  }

  /** Of a list without any line there is no root 0, no word 0, and so on. */
  private static void nothingOfNone() {
    BeeTurnpike bee = Check.taught("");
    CHECK.refused(bee, "root(0, 0) of none", INDEX, () -> bee.root(0, 0));
    CHECK.refused(bee, "word(0, 0) of none", INDEX, () -> bee.word(0, 0));
    CHECK.refused(bee, "part(0, 0) of none", INDEX, () -> bee.part(0, 0));
    CHECK.refused(bee, "speller(0, 0) of none", INDEX, () -> bee.speller(0, 0));
    CHECK.refused(bee, "learn(0, 0, 1) of none", INDEX, () -> bee.learn(0, 0, 1));
    CHECK.refused(bee, "award(0, 1) of none", INDEX, () -> bee.award(0, 1));
    CHECK.refused(bee, "until(0) of none", INDEX, () -> bee.until(0));
    // A speller without a tongue, without a root and without a word; a tongue without a speller.
    BeeTurnpike alone = Check.taught("speller a passes 0;");
    CHECK.refused(alone, "knows(0, 0) without a tongue", INDEX, () -> alone.knows(0, 0));
    CHECK.refused(alone, "heard(0, 0) without a root", INDEX, () -> alone.heard(0, 0));
    CHECK.refused(alone, "strong(0, 0) without a word", INDEX, () -> alone.strong(0, 0));
    CHECK.refused(alone, "learn(0, 0, 1) without a tongue", INDEX, () -> alone.learn(0, 0, 1));
    BeeTurnpike told = Check.taught("tongue t ease 1;root r of t letters 1 hard 1;word w from r;");
    CHECK.refused(told, "knows(0, 0) without a speller", INDEX, () -> told.knows(0, 0));
    CHECK.refused(told, "heard(0, 0) without a speller", INDEX, () -> told.heard(0, 0));
    CHECK.refused(told, "strong(0, 0) without a speller", INDEX, () -> told.strong(0, 0));
  }

  // ---- Promise 14: "Throws IllegalStateException if the bee is over, she has taken 2 in this turn, or has
  //      no point"

  private static void hintAsTheBeeIsOver() {
    BeeTurnpike one = Check.taught("speller a passes 3;");
    one.award(0, 20);
    CHECK.refused(one, "hint() of one speller", STATE, () -> one.hint());
    BeeTurnpike bee = Check.taught(list(of(0), of(0, 0), 3) + "round o toll 0 laps 1 words w0;");
    bee.award(0, 20);
    bee.award(1, 20);
    bee.go(1);
    CHECK.same("hint() in the last turn", bee.hint(), 19);
    bee.go(1);
    CHECK.refused(bee, "hint() behind the last turn", STATE, () -> bee.hint());
    CHECK.same("hints in all", bee.count(13), 1);
  }

  private static void hintsUpTo2() {
    BeeTurnpike bee = Check.taught(list(of(9), of(0, 0), 3) + "round o toll 0 laps 9 words w0;hint s1 when in s1;");
    bee.award(0, 20);
    bee.award(1, 20);
    CHECK.same("hint(), the first", bee.hint(), 19);
    CHECK.same("hint(), the second", bee.hint(), 18);
    CHECK.refused(bee, "hint(), the third", STATE, () -> bee.hint());
    CHECK.same("hints of hers", bee.speller(0, 5), 2);
    CHECK.same("turns so far", bee.count(0), 0);
    bee.skip();
    // Anew in the next turn, and what orders take then counts as well.
    CHECK.same("hint() of the next one", bee.hint(), 19);
    bee.go(1);
    CHECK.same("hints of the next one", bee.speller(1, 5), 2);
    CHECK.same("hint() in the next lap, the first", bee.hint(), 17);
    CHECK.same("hint() in the next lap, the second", bee.hint(), 16);
    CHECK.refused(bee, "hint() in the next lap, the third", STATE, () -> bee.hint());
  }

  private static void hintsDownToNoPoint() {
    BeeTurnpike bee = Check.taught(list(of(9), of(0, 0), 3) + "round o toll 0 laps 9 words w0;");
    CHECK.refused(bee, "hint() without a point", STATE, () -> bee.hint());
    bee.award(1, 20);
    CHECK.refused(bee, "hint() by another one's points", STATE, () -> bee.hint());
    bee.award(0, 1);
    CHECK.same("hint() for the last point", bee.hint(), 0);
    CHECK.refused(bee, "hint() without a further point", STATE, () -> bee.hint());
    bee.award(0, 1);
    CHECK.same("hint() for a point given then", bee.hint(), 0);
  }

  // ---- Promise 15: "Returns the speller on turn then, -1 if the bee is over. Throws IllegalStateException
  //      if the bee is over, or she has no pass left"

  private static void skipAsTheBeeIsOver() {
    BeeTurnpike one = Check.taught("speller a passes 3;");
    CHECK.refused(one, "skip() of one speller", STATE, () -> one.skip());
    BeeTurnpike bee = Check.taught(list(of(0), of(0, 0), 3) + "round o toll 0 laps 1 words w0;");
    bee.go(2);
    CHECK.refused(bee, "skip() behind the last turn", STATE, () -> bee.skip());
    CHECK.same("passes in all", bee.count(14), 0);
  }

  private static void skipsDownToNoPass() {
    for (int passes = 0; passes <= 3; passes++) {
      BeeTurnpike bee = Check.taught(list(of(0), of(0, 0), passes) + "round o toll 0 laps 9 words w0;");
      for (int n = 1; n <= passes; n++) {
        CHECK.same("skip() of the first one, the time " + n, bee.skip(), 1);
        CHECK.same("passes left", bee.speller(0, 3), passes - n);
        CHECK.same("skip() of the second one, the time " + n, bee.skip(), 0);
        CHECK.same("turns so far", bee.count(0), 2 * n);
      }
      CHECK.refused(bee, "skip() behind " + passes, STATE, () -> bee.skip());
      CHECK.same("passes in all", bee.count(14), 2 * passes);
    }
  }

  private static void skipToTheEnd() {
    // Of who is out it goes to the next one who is in; at the end of a lap to the first one who is in.
    BeeTurnpike bee = Check.taught(list(of(9), of(9, 0, 9), 3) + "round o toll 0 laps 4 words w0;");
    bee.go(6);
    CHECK.spellers(bee, "behind two laps", 0, 1, 0, 1);
    CHECK.same("skip() over who is out", bee.skip(), 2);
    CHECK.same("skip() at the end of a lap", bee.skip(), 0);
    CHECK.same("skip() in the last lap", bee.skip(), 2);
    CHECK.same("skip() at the end of all", bee.skip(), -1);
    over(bee, "behind it");
  }

  // ---- Promise 16: "by: how much more she knows of it; at most 20. Returns what she knows of it then. ..
  //      Throws IllegalArgumentException if by is not 1 to 9"

  private static void learnBy1To9() {
    BeeTurnpike bee = Check.taught(LIST);
    CHECK.same("learn(0, 1, 1)", bee.learn(0, 1, 1), 1);
    CHECK.same("learn(0, 1, 9)", bee.learn(0, 1, 9), 10);
    CHECK.same("knows(0, 1)", bee.knows(0, 1), 10);
    for (int by : of(0, 10, -1, LEAST, MOST)) {
      CHECK.refused(bee, "learn(0, 1, " + by + ")", ARGUMENT, () -> bee.learn(0, 1, by));
    }
    for (int x : of(-1, 3, LEAST, MOST)) {
      CHECK.refused(bee, "learn(" + x + ", 0, 1)", INDEX, () -> bee.learn(x, 0, 1));
    }
    for (int x : of(-1, 2, LEAST, MOST)) {
      CHECK.refused(bee, "learn(0, " + x + ", 1)", INDEX, () -> bee.learn(0, x, 1));
    }
    CHECK.same("learn(2, 1, 5)", bee.learn(2, 1, 5), 5);
    CHECK.same("what the others know", bee.knows(0, 0) + bee.knows(1, 0) + bee.knows(1, 1) + bee.knows(2, 0), 27);
  }

  private static void learnUpTo20() {
    // She knows 10 to 20, and learns 9 and 1 more.
    for (int knows = 10; knows <= 20; knows++) {
      String list = "tongue t ease 0;speller a passes 0 knows t " + knows + ";";
      BeeTurnpike nine = Check.taught(list);
      CHECK.same("learn(0, 0, 9) of " + knows, nine.learn(0, 0, 9), knows <= 11 ? knows + 9 : 20);
      CHECK.same("knows(0, 0) of " + knows, nine.knows(0, 0), knows <= 11 ? knows + 9 : 20);
      BeeTurnpike one = Check.taught(list);
      CHECK.same("learn(0, 0, 1) of " + knows, one.learn(0, 0, 1), knows <= 19 ? knows + 1 : 20);
    }
  }

  private static void learnAsTheBeeIsOver() {
    BeeTurnpike bee = Check.taught(list(of(9), of(0, 9), 0) + "round o toll 0 laps 9 words w0;");
    bee.go(60);
    over(bee, "behind all turns");
    CHECK.same("learn() of who is out", bee.learn(0, 0, 4), 4);
    CHECK.same("learn() of who is in", bee.learn(1, 0, 4), 13);
  }

  // ---- Promise 17: "Returns her points then. .. Throws IllegalArgumentException if points is not 1 to 20"

  private static void award1To20() {
    BeeTurnpike bee = Check.taught(LIST);
    CHECK.same("award(0, 1)", bee.award(0, 1), 1);
    CHECK.same("award(0, 20)", bee.award(0, 20), 21);
    CHECK.same("award(2, 20)", bee.award(2, 20), 20);
    CHECK.spellers(bee, "behind awards", 1, 21, 0, 20);
    for (int points : of(0, 21, -1, LEAST, MOST)) {
      CHECK.refused(bee, "award(0, " + points + ")", ARGUMENT, () -> bee.award(0, points));
    }
    for (int x : of(-1, 3, LEAST, MOST)) {
      CHECK.refused(bee, "award(" + x + ", 1)", INDEX, () -> bee.award(x, 1));
    }
  }

  private static void awardAsTheBeeIsOver() {
    BeeTurnpike bee = Check.taught(list(of(9), of(0, 9), 0) + "round o toll 0 laps 9 words w0;");
    bee.go(60);
    over(bee, "behind all turns");
    CHECK.same("award() of who is out", bee.award(0, 20), 20);
    CHECK.same("award() of who is in, with 6 points", bee.award(1, 1), 7);
    CHECK.spellers(bee, "behind awards", 8, 1, 0);
  }

  // ---- Promise 18: "Lets turns go by, till the bee is over. turns: how many at most. Returns how many do.
  //      Throws IllegalArgumentException if turns is not 1 to 60"

  /** So many spellers who are always right, and five rounds of nine laps. */
  private static String longest(int spellers) {
    StringBuilder list = new StringBuilder(list(of(0), new int[spellers], 0));
    for (int i = 0; i < 5; i++) {
      list.append("round o").append(i).append(" toll 0 laps 9 words w0;");
    }
    return list.toString();
  }

  private static void go1To60() {
    BeeTurnpike bee = Check.taught(longest(2));
    for (int turns : of(0, 61, -1, LEAST, MOST)) {
      CHECK.refused(bee, "go(" + turns + ")", ARGUMENT, () -> bee.go(turns));
    }
    CHECK.same("go(1)", bee.go(1), 1);
    CHECK.same("turns behind go(1)", bee.count(0), 1);
    CHECK.same("go(60)", bee.go(60), 60);
    CHECK.same("turns behind go(60)", bee.count(0), 61);
    CHECK.same("go(28)", bee.go(28), 28);
    // One of 90 is left: 2 are too many.
    CHECK.same("go(2) with one left", bee.go(2), 1);
    CHECK.same("turns at last", bee.count(0), 90);
    BeeTurnpike exact = Check.taught(longest(2));
    exact.go(30);
    CHECK.same("go(60) with sixty left", exact.go(60), 60);
    over(exact, "behind ninety");
  }

  private static void goAsTheBeeIsOver() {
    BeeTurnpike bee = Check.taught(list(of(0), of(0, 0), 0) + "round o toll 0 laps 1 words w0;");
    CHECK.same("go(60) with two left", bee.go(60), 2);
    long digest = bee.digest();
    CHECK.same("go(1) as it is over", bee.go(1), 0);
    CHECK.same("go(60) as it is over", bee.go(60), 0);
    CHECK.same("digest() behind it", bee.digest(), digest);
    for (int turns : of(0, 61)) {
      CHECK.refused(bee, "go(" + turns + ") as it is over", ARGUMENT, () -> bee.go(turns));
    }
    CHECK.same("go(1) of one speller", Check.taught("speller a passes 0;").go(1), 0);
  }

  // ---- Promise 19: "Returns this, behind so many turns, or as the bee is over, if nothing is done by hand
  //      (nothing is changed). Throws IllegalArgumentException if turns is not 1 to 60. Throws
  //      IndexOutOfBoundsException if what is not 10 to 16"

  private static void foreseeEdges() {
    BeeTurnpike bee = Check.taught(longest(2));
    for (int turns : of(0, 61, -1, LEAST, MOST)) {
      CHECK.refused(bee, "foresee(" + turns + ", 10)", ARGUMENT, () -> bee.foresee(turns, 10));
      CHECK.refused(bee, "foresee(" + turns + ", 16)", ARGUMENT, () -> bee.foresee(turns, 16));
    }
    for (int what : of(9, 17, 0, -1, LEAST, MOST)) {
      CHECK.refused(bee, "foresee(1, " + what + ")", INDEX, () -> bee.foresee(1, what));
      CHECK.refused(bee, "foresee(60, " + what + ")", INDEX, () -> bee.foresee(60, what));
    }
    CHECK.same("foresee(1, 11)", bee.foresee(1, 11), 1);
    CHECK.same("foresee(60, 11)", bee.foresee(60, 11), 60);
    CHECK.same("foresee(60, 10)", bee.foresee(60, 10), 2);
    bee.go(60);
    CHECK.same("foresee(29, 11) with thirty left", bee.foresee(29, 11), 89);
    CHECK.same("foresee(30, 11) with thirty left", bee.foresee(30, 11), 90);
    CHECK.same("foresee(31, 11) with thirty left", bee.foresee(31, 11), 90);
    CHECK.same("foresee(60, 11) with thirty left", bee.foresee(60, 11), 90);
    // Each of 10 to 16 behind the turns of countInAll().
    BeeTurnpike each = Check.taught(OF_EACH_KIND);
    each.award(0, 2);
    for (int turns = 1; turns <= 5; turns++) {
      for (int what = 10; what <= 16; what++) {
        int due = IN_ALL[turns - 1][what - 10];
        CHECK.same("foresee(" + turns + ", " + what + ")", each.foresee(turns, what), due);
      }
    }
  }

  private static void foreseeAsTheBeeIsOver() {
    BeeTurnpike bee = Check.taught(list(of(9), of(0, 9), 0) + "round o toll 0 laps 9 words w0;");
    int[] due = {1, 2, 2, 0, 0, 0, 0};
    for (int i = 0; i < due.length; i++) {
      CHECK.same("foresee(4, " + (10 + i) + ")", bee.foresee(4, 10 + i), due[i]);
      CHECK.same("foresee(60, " + (10 + i) + ")", bee.foresee(60, 10 + i), due[i]);
    }
    bee.go(60);
    for (int i = 0; i < due.length; i++) {
      CHECK.same("foresee(1, " + (10 + i) + ") as it is over", bee.foresee(1, 10 + i), due[i]);
      CHECK.same("foresee(60, " + (10 + i) + ") as it is over", bee.foresee(60, 10 + i), due[i]);
    }
    CHECK.refused(bee, "foresee(61, 10) as it is over", ARGUMENT, () -> bee.foresee(61, 10));
    CHECK.refused(bee, "foresee(1, 17) as it is over", INDEX, () -> bee.foresee(1, 17));
    CHECK.same("foresee(60, 10) of one speller", Check.taught("speller a passes 0;").foresee(60, 10), 1);
  }

  private static void foreseeChangesNothing() {
    BeeTurnpike bee = Check.taught(LIST);
    BeeTurnpike twin = Check.taught(LIST);
    for (int turn = 0; turn < 12; turn++) {
      for (int what = 10; what <= 16; what++) {
        bee.foresee(60, what);
        bee.foresee(1, what);
      }
      CHECK.same("digest() behind foresee(), the turn " + turn, bee.digest(), twin.digest());
      CHECK.same("strong(0, 0) behind foresee()", bee.strong(0, 0), twin.strong(0, 0));
      CHECK.same("go(1) behind foresee(), the turn " + turn, bee.go(1), twin.go(1));
    }
  }

  private static void foreseeInTheMidst() {
    // What it told behind so many turns is what count() tells then, wherever it was asked: a right word or
    // a miss in the lap so far, roots that were heard, the place, the lap, the round, hints and appeals.
    String[] lists = {
      LIST,
      list(of(9), of(0, 0, 0), 1) + "round o toll 0 laps 9 words w0;",
      list(of(9), of(9, 0, 0), 1) + "round o toll 0 laps 3 words w0;round p toll 7 laps 3 words w0;",
      list(of(3, 4, 5, 9), of(3, 3, 3), 1) + "round o toll 2 laps 3 words w0 w1 w0 w3 w2;"
          + "round p toll 9 laps 2 words w3 w0;appeal s0 when in s0;hint s1 when turn > 3;pass s2 when turn = 5;",
      // x is as hard as one is strong who has heard the root thrice.
      "tongue t ease 0;root r of t letters 1 hard 1;word w from r;word x from r r r r;"
          + "speller a passes 0 knows t 2;speller b passes 0 knows t 1;round o toll 0 laps 6 words w w w w w w x;",
    };
    for (String list : lists) {
      BeeTurnpike ahead = Check.taught(list);
      int[][] told = new int[61][];
      int turns = 0;
      for (; turns <= 60 && (turns == 0 || ahead.go(1) == 1); turns++) {
        told[turns] = tallies(ahead);
      }
      for (int from = 0; from < turns; from++) {
        BeeTurnpike bee = Check.taught(list);
        if (from > 0) {
          bee.go(from);
        }
        for (int more = 1; more <= 12; more++) {
          int[] due = told[Math.min(from + more, turns - 1)];
          for (int what = 10; what <= 16 && from + more <= 60; what++) {
            CHECK.same("foresee(" + more + ", " + what + ") behind " + from, bee.foresee(more, what), due[what - 10]);
          }
        }
      }
    }
  }

  private static int[] tallies(BeeTurnpike bee) {
    int[] tallies = new int[7];
    for (int what = 10; what <= 16; what++) {
      tallies[what - 10] = bee.count(what);
    }
    return tallies;
  }

  // ---- Promise 20: "Returns behind how many turns she is out for the first time, if nothing is done by
  //      hand: 0 if she is now; -1 if she is still in as the bee is over (nothing is changed)."

  private static void untilNow() {
    // s0 goes out by the fourth turn.
    BeeTurnpike bee = Check.taught(list(of(9), of(0, 9, 9), 0) + "round o toll 0 laps 9 words w0;");
    int[] due = {4, 3, 2, 1, 0, 0, 0};
    for (int turn = 0; turn < due.length; turn++) {
      CHECK.same("until(0) behind " + turn, bee.until(0), due[turn]);
      CHECK.same("until(1) behind " + turn, bee.until(1), -1);
      bee.go(1);
    }
  }

  private static void untilTheEnd() {
    // By the toll of the last round, with the turn by which the bee is over.
    BeeTurnpike bee = Check.taught(list(of(3), of(3, 0, 3), 0) + "round o toll 1 laps 1 words w0;");
    CHECK.same("until(1) by the last toll", bee.until(1), 3);
    CHECK.same("until(0) by the last toll", bee.until(0), -1);
    bee.go(2);
    CHECK.same("until(1) ahead of the last turn", bee.until(1), 1);
    bee.go(1);
    CHECK.same("until(1) behind the last turn", bee.until(1), 0);
    CHECK.same("until(2) behind the last turn", bee.until(2), -1);
    // By the second miss of the last lap, with one alone left.
    BeeTurnpike miss = Check.taught(list(of(9), of(9, 0), 0) + "round o toll 0 laps 2 words w0;");
    CHECK.same("until(1) by the last miss", miss.until(1), 4);
    CHECK.same("until(0) by the last miss", miss.until(0), -1);
  }

  private static void untilFarAway() {
    // The others have a point more: the toll of the last of five rounds is one that s5 alone does not have.
    for (int last = 1; last <= 5; last++) {
      StringBuilder list = new StringBuilder(list(of(0), of(0, 0, 0, 0, 0, 0), 0));
      for (int round = 1; round <= last; round++) {
        list.append("round o").append(round).append(" toll ").append(round == last ? 9 * last + 1 : 0);
        list.append(" laps 9 words w0;");
      }
      BeeTurnpike bee = Check.taught(list.toString());
      for (int s = 0; s < 5; s++) {
        bee.award(s, 1);
      }
      CHECK.same("until(5) by the toll of the round " + last, bee.until(5), 54 * last);
      CHECK.same("until(4) by the toll of the round " + last, bee.until(4), -1);
      // Nothing is changed by it.
      CHECK.same("turns behind until()", bee.count(0), 0);
      CHECK.same("speller(5, 0) behind until()", bee.speller(5, 0), 1);
    }
  }

  private static void untilOutForTheFirstTime() {
    // All miss: who is not the last one of the lap is out for the rest of it, and in again.
    BeeTurnpike bee = Check.taught(list(of(9), of(0, 0, 0), 0) + "round o toll 0 laps 9 words w0;");
    CHECK.same("until(0) of who comes in again", bee.until(0), 4);
    CHECK.same("until(1) of who comes in again", bee.until(1), 5);
    // The last one goes out and comes in again with one turn: behind no turn is she out.
    CHECK.same("until(2) of the last one", bee.until(2), -1);
    bee.go(4);
    CHECK.same("until(0) as she is out", bee.until(0), 0);
    bee.go(2);
    CHECK.same("until(0) as she is in again", bee.until(0), 1);
    CHECK.same("until(1) as she is in again", bee.until(1), 2);
  }

  private static void untilAsTheBeeIsOver() {
    BeeTurnpike bee = Check.taught(list(of(9), of(0, 9), 0) + "round o toll 0 laps 9 words w0;");
    bee.go(60);
    CHECK.same("until() of who is out, as it is over", bee.until(0), 0);
    CHECK.same("until() of who is in, as it is over", bee.until(1), -1);
    CHECK.same("until() of one speller", Check.taught("speller a passes 0;").until(0), -1);
  }

  private static void untilRefuses() {
    BeeTurnpike bee = Check.taught(LIST);
    for (int x : of(-1, 3, LEAST, MOST)) {
      CHECK.refused(bee, "until(" + x + ")", INDEX, () -> bee.until(x));
    }
    bee.go(60);
    for (int x : of(-1, 3)) {
      CHECK.refused(bee, "until(" + x + ") as it is over", INDEX, () -> bee.until(x));
    }
  }

  // ---- Promise 21: "Returns the speller with the rank 0 as the bee is over, if nothing is done by hand; -1
  //      without spellers (nothing is changed)."

  private static void winnerWithoutSpellers() {
    CHECK.same("winner() of a new one", new BeeTurnpike().winner(), -1);
    CHECK.same("winner() of an empty list", Check.taught("").winner(), -1);
    CHECK.same("winner() of a list without spellers", Check.taught("tongue t ease 0;root r of t letters 1 hard 1;"
        + "word w from r;round o toll 0 laps 1 words w;").winner(), -1);
    CHECK.same("winner() of one speller", Check.taught("speller a passes 0;").winner(), 0);
    BeeTurnpike two = Check.taught("speller a passes 0;speller b passes 0;");
    CHECK.same("winner() of two without a round", two.winner(), 0);
    two.award(1, 1);
    CHECK.same("winner() of two without a round, by a point", two.winner(), 1);
  }

  private static void winnerAsTheBeeIsOver() {
    BeeTurnpike bee = Check.taught(list(of(9), of(0, 9, 9), 0) + "round o toll 0 laps 3 words w0;");
    bee.award(0, 20);
    bee.go(60);
    over(bee, "behind all turns");
    // s0, with more points, is out; of as many the smaller number.
    CHECK.spellers(bee, "at last", 1, 20, 9, 9);
    CHECK.same("winner() as it is over", bee.winner(), 1);
    bee.award(2, 1);
    CHECK.same("winner() as it is over, by a point given then", bee.winner(), 2);
  }

  private static void winnerIfNothingIsDoneByHand() {
    // s1 has 3 points of the first word, s0 has 20 till she goes out in the second lap.
    BeeTurnpike bee = Check.taught(list(of(9), of(0, 9, 0), 1) + "round o toll 0 laps 3 words w0;");
    bee.award(0, 20);
    CHECK.same("winner() ahead of all", bee.winner(), 1);
    CHECK.same("the rank of 0 now", bee.speller(0, 8), 0);
    long digest = bee.digest();
    bee.winner();
    CHECK.same("digest() behind winner()", bee.digest(), digest);
    // What is done by hand changes it: s0 learns till she is right.
    bee.learn(0, 0, 9);
    CHECK.same("winner() behind learn()", bee.winner(), 0);
    // The longest bee: of 270 turns the last one's toll is looked at.
    StringBuilder list = new StringBuilder(list(of(0), of(0, 0, 0, 0, 0, 0), 0));
    for (int i = 1; i <= 5; i++) {
      list.append("round o").append(i).append(" toll ").append(i == 5 ? 46 : 0).append(" laps 9 words w0;");
    }
    BeeTurnpike far = Check.taught(list.toString());
    CHECK.same("winner() of as many points", far.winner(), 0);
    far.award(4, 1);
    CHECK.same("winner() of a point more", far.winner(), 4);
  }

  // ---- Promise 22: "Returns 0 nothing, 1 a hint, 2 pass the word on, of several the smallest number; what
  //      she cannot do does not count; -1 if the bee is over (nothing is changed)."

  private static void adviseAsTheBeeIsOver() {
    CHECK.same("advise() of a new one", new BeeTurnpike().advise(), -1);
    CHECK.same("advise() of one speller", Check.taught("speller a passes 3;").advise(), -1);
    BeeTurnpike bee = Check.taught(list(of(0), of(0, 0), 3) + "round o toll 0 laps 1 words w0;");
    bee.go(1);
    CHECK.same("advise() in the last turn", bee.advise(), 0);
    bee.go(1);
    CHECK.same("advise() behind the last turn", bee.advise(), -1);
  }

  /**
   * s0 knows so much of a word that is hard 8, s1 and s2 know enough; s0 has missed once, so that in the
   * second and last lap she goes out unless she is right or passes the word on.
   */
  private static BeeTurnpike inDanger(int knows, int passes) {
    BeeTurnpike bee = Check.taught(list(of(8), of(knows, 9, 9), passes) + "round o toll 0 laps 2 words w0;");
    bee.go(3);
    CHECK.spellers(bee, "ahead of the danger", 1, 0, 3, 3);
    CHECK.spellers(bee, "ahead of the danger", 2, 1, 0, 0);
    return bee;
  }

  private static void adviseEachChoice() {
    // With 4 points: by a hint she is right, and has 6 points as the others have: the rank 0. By a pass
    // she has 4 points, by nothing she is out: the rank 2 both.
    BeeTurnpike hint = inDanger(5, 1);
    hint.award(0, 4);
    CHECK.same("advise() of who needs a hint", hint.advise(), 1);
    // With 9 points a hint does not help who knows 0, a pass does.
    BeeTurnpike pass = inDanger(0, 1);
    pass.award(0, 9);
    CHECK.same("advise() of who had best pass", pass.advise(), 2);
    // Who knows enough has the rank 0 by nothing, and by a hint or a pass she falls behind.
    BeeTurnpike nothing = inDanger(5, 1);
    nothing.learn(0, 0, 3);
    nothing.award(0, 3);
    CHECK.same("advise() of who is right", nothing.advise(), 0);
  }

  private static void adviseTheSmallestOfSeveral() {
    // 1 and 2: by a hint 10 - 1 + 3 points, by a pass 10, by nothing she is out.
    BeeTurnpike both = inDanger(5, 1);
    both.award(0, 10);
    CHECK.same("advise() of a hint and a pass", both.advise(), 1);
    // 0 and 1 and 2: last in any case.
    BeeTurnpike last = inDanger(0, 1);
    CHECK.same("advise() of who is last in any case", last.advise(), 0);
    // 0 and 1 and 2: first in any case.
    BeeTurnpike first = inDanger(5, 1);
    first.learn(0, 0, 3);
    first.award(0, 20);
    CHECK.same("advise() of who is first in any case", first.advise(), 0);
    // 0 and 2, but not 1: a point less makes a rank.
    BeeTurnpike two = Check.taught(list(of(9), of(0, 0), 1) + "round o toll 0 laps 1 words w0;");
    two.award(0, 1);
    two.award(1, 1);
    CHECK.same("advise() of nothing and a pass", two.advise(), 0);
  }

  private static void adviseWhatSheCanDo() {
    // No pass: nothing helps, so 0.
    BeeTurnpike noPass = inDanger(0, 0);
    noPass.award(0, 9);
    CHECK.same("advise() without a pass", noPass.advise(), 0);
    // Her pass used up in the first lap.
    BeeTurnpike used = Check.taught(list(of(8), of(0, 9, 9), 1) + "round o toll 0 laps 3 words w0;"
        + "pass s0 when turn = 0;");
    used.award(0, 19);
    used.go(6);
    CHECK.spellers(used, "with the pass used up", 3, 0, 1, 1);
    CHECK.spellers(used, "with the pass used up", 2, 1, 0, 0);
    CHECK.same("advise() with the pass used up", used.advise(), 0);
    // No point: a hint would make her right, but there is none; with passes it is the pass that helps,
    // as s2, who is in with no point, has a greater number.
    String list = list(of(8), of(5, 9, 0), 3) + "round o toll 0 laps 2 words w0;pass s2 when in s2;";
    BeeTurnpike noPoint = Check.taught(list);
    noPoint.go(3);
    CHECK.same("advise() without a point", noPoint.advise(), 2);
    noPoint.award(0, 1);
    CHECK.same("advise() with a point", noPoint.advise(), 1);
    // Two hints taken: 2 and 6 is right; 1 and 6 is not, and a third hint cannot be.
    BeeTurnpike twoHints = inDanger(1, 1);
    twoHints.award(0, 12);
    twoHints.hint();
    twoHints.hint();
    CHECK.same("advise() with two hints taken", twoHints.advise(), 2);
    BeeTurnpike oneHint = inDanger(2, 0);
    oneHint.award(0, 12);
    oneHint.hint();
    CHECK.same("advise() with one hint taken", oneHint.advise(), 1);
    oneHint.hint();
    CHECK.same("advise() with the second hint taken", oneHint.advise(), 0);
    BeeTurnpike third = inDanger(1, 0);
    third.award(0, 12);
    third.hint();
    third.hint();
    CHECK.same("advise() with two hints taken and no pass", third.advise(), 0);
  }

  private static void advisePassOfTheLast() {
    // Of three laps s0 misses the first; her one pass saves her in the second or, by an order, in the third.
    String list = list(of(8), of(0, 9, 9), 1) + "round o toll 0 laps 3 words w0;";
    BeeTurnpike last = Check.taught(list + "pass s0 when turn = 6;");
    last.go(3);
    last.award(0, 19);
    // Passed on now, it is gone then: she is out in the second lap, or in the third one.
    CHECK.same("advise() of the only pass", last.advise(), 0);
    BeeTurnpike more = Check.taught(list.replace("passes 1", "passes 2") + "pass s0 when turn = 6;");
    more.go(3);
    more.award(0, 19);
    CHECK.same("advise() of two passes", more.advise(), 2);
  }

  private static void adviseHintOfTheLastPoint() {
    // One point: with a hint she is right, with 5 and 3 to 8; the order of a second one finds no point.
    String list = list(of(8), of(5, 0), 0) + "round o toll 3 laps 1 words w0;hint s0 when gap s0 <= 0;";
    BeeTurnpike bee = Check.taught(list);
    bee.award(0, 1);
    bee.award(1, 4);
    // 3 points by the hint, and both pay the toll; by nothing she has 1, and is out. The rank is 1 both.
    CHECK.same("advise() of the last point", bee.advise(), 0);
    bee.award(0, 2);
    // 3 less 2 for the hints and 3 more for the word are 4, as many as s1 has: the rank 0. By nothing it is 1.
    CHECK.same("advise() of three points", bee.advise(), 1);
  }

  private static void adviseOfWhoIsNotTheFirst() {
    // s1 on turn, in danger as s0 was.
    BeeTurnpike bee = Check.taught(list(of(8), of(9, 5, 9), 1) + "round o toll 0 laps 2 words w0;");
    bee.go(4);
    CHECK.same("the speller on turn", bee.count(8), 1);
    CHECK.spellers(bee, "ahead of the danger", 1, 6, 0, 3);
    bee.award(1, 5);
    // By a hint 5 - 1 + 3 are 7, and 6 and 6; by a pass 5 are the last, by nothing she is out.
    CHECK.same("advise() of the second one", bee.advise(), 1);
    CHECK.same("winner() without it", bee.winner(), 0);
    bee.hint();
    CHECK.same("winner() with it", bee.winner(), 1);
    CHECK.same("advise() behind it", bee.advise(), 0);
  }

  private static void adviseChangesNothing() {
    BeeTurnpike bee = inDanger(5, 1);
    bee.award(0, 4);
    BeeTurnpike twin = inDanger(5, 1);
    twin.award(0, 4);
    for (int n = 0; n < 4; n++) {
      bee.advise();
      CHECK.same("digest() behind advise()", bee.digest(), twin.digest());
      CHECK.same("strong(0, 0) behind advise()", bee.strong(0, 0), twin.strong(0, 0));
      CHECK.same("go(1) behind advise()", bee.go(1), twin.go(1));
    }
  }

  // ---- Promise 23: "Returns the mean of the points of all spellers; 0 without any."

  private static void meanOfNone() {
    CHECK.same("mean() of a new one", new BeeTurnpike().mean(), 0.0);
    CHECK.same("mean() of an empty list", Check.taught("").mean(), 0.0);
    CHECK.same("mean() of one without a point", Check.taught("speller a passes 0;").mean(), 0.0);
  }

  private static void meanOfAll() {
    BeeTurnpike one = Check.taught("speller a passes 0;");
    one.award(0, 7);
    CHECK.same("mean() of one", one.mean(), 7.0);
    // It is not cut: 1 of two, 20 of six.
    BeeTurnpike two = Check.taught("speller a passes 0;speller b passes 0;");
    two.award(1, 1);
    CHECK.same("mean() of two", two.mean(), 0.5);
    BeeTurnpike six = Check.taught(list(of(0), new int[6], 0));
    six.award(5, 20);
    CHECK.same("mean() of six", six.mean(), 20.0 / 6.0);
    // Of all, those who are out, too: 20 and 6.
    BeeTurnpike out = Check.taught(list(of(9), of(0, 9), 0) + "round o toll 0 laps 9 words w0;");
    out.award(0, 20);
    out.go(60);
    CHECK.spellers(out, "at last", 0, 0, 1);
    CHECK.same("mean() with one out", out.mean(), 13.0);
    // Another list has other spellers.
    Check.teach(out, "speller a passes 0;");
    CHECK.same("mean() of another list", out.mean(), 0.0);
  }

  // ---- Promise 24: "A number d starts with 919; for each of the following numbers x, d becomes d * 31 + x,
  //      which wraps around as a 64-bit integer"

  /** Reckoned with numbers of any length, and cut to 64 bits at last. */
  private static long wrapped(int... numbers) {
    BigInteger d = BigInteger.valueOf(919);
    for (int x : numbers) {
      d = d.multiply(BigInteger.valueOf(31)).add(BigInteger.valueOf(x));
    }
    return d.longValue();
  }

  private static void digestOfNothing() {
    // 919 * 31 ^ 18 is far more than 2 ^ 63; three of the numbers are -1.
    long due = wrapped(0, 0, 0, 0, 0, 0, 0, -1, -1, -1, 0, 0, 0, 0, 0, 0, 0, 0);
    CHECK.same("digest() of a new one", new BeeTurnpike().digest(), due);
    CHECK.same("digest() of an empty list", Check.taught("").digest(), due);
    BeeTurnpike fed = new BeeTurnpike();
    fed.feed(0, 0, 0, 0, 0);
    CHECK.same("digest() with twenty bytes", fed.digest(), due + 20);
  }

  private static void digestOfAll() {
    // A tongue alone; spellers without a tongue; a root and a word without a speller.
    CHECK.same("digest() of a tongue", Check.taught("tongue t ease 9;").digest(),
        wrapped(0, 1, 0, 0, 0, 0, 0, -1, -1, -1, 0, 0, 0, 0, 0, 0, 0, 0));
    CHECK.same("digest() of a speller", Check.taught("speller a passes 2;").digest(),
        wrapped(0, 0, 0, 0, 1, 0, 0, -1, -1, -1, 1, 0, 0, 0, 0, 0, 0, 0, 1, 0, 0, 2, 1, 0, 0, 0, 0));
    CHECK.same("digest() of a root and a word",
        Check.taught("tongue t ease 9;root r of t letters 4 hard 3;word w from r r;").digest(),
        wrapped(0, 1, 1, 1, 0, 0, 0, -1, -1, -1, 0, 0, 0, 0, 0, 0, 0, 0, 0, 4, 3, 9, 1, 2, 8, 8, 0, 0));
    // a misses w by 2, b is right at x: 1 point for a word that is hard 0; then 3 bytes on the tape.
    BeeTurnpike bee = Check.taught(LIST);
    bee.go(2);
    Check.feed(bee, "abc");
    CHECK.same("digest() behind two turns", bee.digest(), wrapped(
        2, 2, 4, 3, 3, 1, 2, 0, 2, 2, 3, 1, 1, 0, 0, 0, 0, 3,
        0, 4, 2, 1, 1, 1, 3, 1, 2, 2, 1, 1, 0, 2, 2, 0, 9, 9, 1, 0,
        2, 7, 4, 1, 0, 1, 1, 0, 1, 1, 3, 5, 2, 0, 0,
        1, 0, 1, 1, 1, 0, 0, 1, 1, 3, 0, 0, 0, 0, 0,
        1, 1, 0, 0, 1, 0, 1, 0, 0, 4, 20, 0, 0, 1, 0,
        1, 0, 0, 2, 1, 0, 0, 0, 2, 0, 0, 0, 0, 0, 0));
  }
}
