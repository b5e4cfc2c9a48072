/** The boundaries of the document's "What it is" and "Terms"; a comment quotes each sentence. */
public final class EdgesOfTermsTest extends Lists {
  private static final Check CHECK = new Check("EdgesOfTermsTest");
  // The greatest and the least number of 32 bits; a number of the language has 6 digits at most.
  private static final String MOST = "(2147*1000*1000+483647)";
  private static final String LEAST = "(0-2147*1000*1000-483648)";

  public static void main(String[] args) {
    callsOfOneKind();
    callsOfATaughtBee();
    teachesToTheLastCall();
    longTestsToTheLastCall();
    refusalsToTheLastCall();
    theGreatestAndTheLeast();
    sumsWrapAround();
    differencesWrapAround();
    productsWrapAround();
    turnedNumbersWrapAround();
    cutTowardsNought();
    noughtOnTheRightSide();
    theLeastByMinusOne();
    comparedWithoutWrapping();
    comparedAtTheEdge();
    positionsFromNought();
    CHECK.end();
  }

  // ---- "An object is used for at most 512 calls after it has been made."

  private static void callsOfOneKind() {
    BeeTurnpike asked = new BeeTurnpike();
    for (int call = 1; call <= 512; call++) {
      CHECK.same("winner() as the call " + call, asked.winner(), -1);
    }
    BeeTurnpike given = Check.taught("speller a passes 0;");
    // Fed by one call, cut by one, taught by one.
    for (int call = 4; call <= 512; call++) {
      CHECK.same("award(0, 20) as the call " + call, given.award(0, 20), 20 * (call - 3));
    }
  }

  private static void callsOfATaughtBee() {
    // The longest bee: 6 spellers who are always right, 5 rounds of 9 laps: 270 turns.
    StringBuilder list = new StringBuilder(list(of(0), of(0, 0, 0, 0, 0, 0), 0));
    for (int i = 0; i < 5; i++) {
      list.append("round o").append(i).append(" toll 0 laps 9 words w0;");
    }
    BeeTurnpike bee = new BeeTurnpike();
    Check.feed(bee, list.toString());
    CHECK.same("teach() of the longest bee", bee.teach(), 0);
    int calls = (list.length() + 19) / 20 + 2;
    for (int turn = 1; turn <= 270; turn++) {
      CHECK.same("go(1), the turn " + turn, bee.go(1), 1);
      calls++;
    }
    for (; calls < 509; calls++) {
      CHECK.same("go(60) of a bee that is over", bee.go(60), 0);
    }
    CHECK.same("turns as the call 510", bee.count(0), 270);
    CHECK.same("words spelled rightly as the call 511", bee.count(11), 270);
    // Each of 6 has spelled 45 words rightly, for a point each.
    CHECK.same("mean() as the call 512", bee.mean(), 45.0);
  }

  private static void teachesToTheLastCall() {
    BeeTurnpike bee = new BeeTurnpike();
    for (int call = 1; call <= 507; call += 3) {
      // "tong" "ue t" " eas" "e 1;" and what is cut off.
      CHECK.same("feed() as the call " + call,
          bee.feed(0x746f6e67, 0x75652074, 0x20656173, 0x6520313b, 0x21212121), 20);
      CHECK.same("trim(16) as the call " + (call + 1), bee.trim(16), 16);
      CHECK.same("teach() as the call " + (call + 2), bee.teach(), 0);
    }
    CHECK.same("feed() as the call 508",
        bee.feed(0x746f6e67, 0x75652074, 0x20656173, 0x6520313b, 0x21212121), 20);
    CHECK.same("teach() as the call 509", bee.teach(), 1);
    CHECK.same("errorAt() as the call 510", bee.errorAt(), 16);
    CHECK.same("tongues as the call 511", bee.count(1), 1);
    CHECK.same("bytes of the tape as the call 512", bee.count(17), 0);
  }

  private static void longTestsToTheLastCall() {
    // A test of 170 sums, taught as often as 512 calls allow, now and then with an error behind it.
    StringBuilder sum = new StringBuilder("turn");
    for (int n = 0; n < 170; n++) {
      sum.append("+1");
    }
    String list = list(of(9), of(0, 0), 1) + "round o toll 0 laps 9 words w0;pass s0 when " + sum + "=170;";
    BeeTurnpike bee = new BeeTurnpike();
    int calls = 0;
    for (int time = 0; time < 14; time++) {
      boolean wrong = time % 3 == 1;
      String text = wrong ? list + "hint x when in s0;" : list;
      calls += (text.length() + 19) / 20 + 4;
      CHECK.same("teach(), the time " + time, Check.teach(bee, text), wrong ? 3 : 0);
      CHECK.same("foresee(1, 14), the time " + time, bee.foresee(1, 14), 1);
      CHECK.same("foresee(2, 12), the time " + time, bee.foresee(2, 12), 1);
    }
    CHECK.same("calls of long tests are 512 at most", calls <= 511 ? 1 : 0, 1);
    for (; calls < 511; calls++) {
      CHECK.same("the speller on turn", bee.count(8), 0);
    }
    CHECK.same("foresee(1, 14) as the call 512", bee.foresee(1, 14), 1);
  }

  private static void refusalsToTheLastCall() {
    BeeTurnpike bee = new BeeTurnpike();
    for (int call = 1; call <= 512; call++) {
      CHECK.throwing("hint() as the call " + call, IllegalStateException.class, () -> bee.hint());
    }
  }

  // ---- "sums, differences and products of the language wrap around in 32 bits"

  /** Whether a test holds, by an order of passing the word on in the first turn. */
  private static void holds(boolean due, String test) {
    BeeTurnpike bee = Check.taught(list(of(9), of(0, 0), 1) + "round o toll 0 laps 9 words w0;"
        + "pass s0 when " + test + ";");
    bee.go(1);
    CHECK.same("passes by \"" + test + "\"", bee.count(14), due ? 1 : 0);
  }

  private static void equal(String sum, String due) {
    holds(true, sum + " = " + due);
    holds(false, "not " + sum + " = " + due);
  }

  private static void theGreatestAndTheLeast() {
    // No wrapping yet: they have the sign that they ought to have.
    holds(true, MOST + " > 0");
    holds(true, LEAST + " < 0");
    equal(MOST + "-2147*1000*1000", "483647");
    equal(LEAST + "+2147*1000*1000", "-483648");
  }

  private static void sumsWrapAround() {
    equal(MOST + "+0", MOST);
    equal(MOST + "+1", LEAST);
    equal(MOST + "+2", LEAST + "+1");
    equal(MOST + "+" + MOST, "-2");
    equal(LEAST + "+" + LEAST, "0");
    equal(LEAST + "+-1", MOST);
    equal(LEAST + "+" + MOST, "-1");
    holds(true, MOST + "+1 < 0");
    // Within a long sum, too: it wraps on the way and comes back.
    equal(MOST + "+999999-999999", MOST);
  }

  private static void differencesWrapAround() {
    equal(LEAST + "-0", LEAST);
    equal(LEAST + "-1", MOST);
    equal(MOST + "--1", LEAST);
    equal("0-" + LEAST, LEAST);
    equal("0-" + MOST, LEAST + "+1");
    equal("-1-" + LEAST, MOST);
    equal("1-" + LEAST, LEAST + "+1");
    equal("-2-" + MOST, MOST);
    holds(true, LEAST + "-1 > 0");
  }

  private static void productsWrapAround() {
    equal(MOST + "*1", MOST);
    equal(MOST + "*2", "-2");
    equal(MOST + "*" + MOST, "1");
    equal(LEAST + "*-1", LEAST);
    equal(LEAST + "*2", "0");
    equal(LEAST + "*3", LEAST);
    equal(LEAST + "*" + LEAST, "0");
    equal("65536*32767", MOST + "-65535");
    equal("65536*32768", LEAST);
    equal("65536*65535", "-65536");
    equal("65536*65536", "0");
    equal("65536*65537", "65536");
    // 46340 * 46340 is 2147395600, 46341 * 46341 is 2147488281 and more than the greatest.
    equal("46340*46340", "2147*1000*1000+395600");
    holds(true, "46341*46341 < 0");
    // 999999 * 999999 is 999998000001; 233 times 2 ^ 32 less, which is 1000727379968, -729379967.
    equal("999999*999999", "-729*1000*1000-379967");
  }

  private static void turnedNumbersWrapAround() {
    equal("-" + MOST, LEAST + "+1");
    equal("-" + LEAST, LEAST);
    equal("--" + LEAST, LEAST);
    equal("-0", "0");
  }

  // ---- "/ is cut towards 0, gives 0 with 0 on the right side, and -2147483648 / -1 gives
  //      -2147483648"

  private static void cutTowardsNought() {
    equal("1/2", "0");
    equal("-1/2", "0");
    equal("1/-2", "0");
    equal("-1/-2", "0");
    equal("3/2", "1");
    equal("-3/2", "-1");
    equal("3/-2", "-1");
    equal("-3/-2", "1");
    equal("4/2", "2");
    equal("-4/2", "-2");
    equal("5/6", "0");
    equal("6/6", "1");
    equal("-5/6", "0");
    equal("-6/6", "-1");
    equal("-7/6", "-1");
    equal("-11/6", "-1");
    equal("-12/6", "-2");
    equal("0/-7", "0");
    equal(MOST + "/2", "1073*1000*1000+741823");
    equal(LEAST + "/2", "-1073*1000*1000-741824");
    equal(LEAST + "/" + MOST, "-1");
    equal(MOST + "/" + LEAST, "0");
    equal(LEAST + "/" + LEAST, "1");
  }

  private static void noughtOnTheRightSide() {
    equal("0/0", "0");
    equal("1/0", "0");
    equal("-1/0", "0");
    equal("999999/0", "0");
    equal(MOST + "/0", "0");
    equal(LEAST + "/0", "0");
    // Nought by reckoning, and what tests tell.
    equal("7/(3-3)", "0");
    equal("7/turn", "0");
    equal("7/points s0", "0");
    equal("7/-0", "0");
    // It is gone on with: 7 / 0 * 5 + 2.
    equal("7/0*5+2", "2");
    equal("7/(1/2)", "0");
  }

  private static void theLeastByMinusOne() {
    equal(LEAST + "/-1", LEAST);
    equal(LEAST + "/(1-2)", LEAST);
    equal(LEAST + "/-1/-1", LEAST);
    // Its neighbours.
    equal("(" + LEAST + "+1)/-1", MOST);
    equal(LEAST + "/1", LEAST);
    equal(LEAST + "/-2", "1073*1000*1000+741824");
    equal(MOST + "/-1", LEAST + "+1");
  }

  private static void comparedWithoutWrapping() {
    // Only sums, differences and products wrap around: a comparison is none of these.
    holds(true, LEAST + " < " + MOST);
    holds(true, LEAST + " <= " + MOST);
    holds(false, LEAST + " > " + MOST);
    holds(false, LEAST + " >= " + MOST);
    holds(false, LEAST + " = " + MOST);
    holds(true, MOST + " > " + LEAST);
    holds(true, MOST + " > -1");
    holds(true, LEAST + " < 1");
    equal("min(" + MOST + "," + LEAST + ")", LEAST);
    equal("max(" + LEAST + "," + MOST + ")", MOST);
    equal("max(-1," + LEAST + ")", "-1");
  }

  private static void comparedAtTheEdge() {
    String[] signs = {"<", "<=", "=", ">=", ">"};
    // Of one less, as much, one more on the left side.
    boolean[][] due = {{true, false, false}, {true, true, false}, {false, true, false}, {false, true, true},
        {false, false, true}};
    for (int sign = 0; sign < signs.length; sign++) {
      for (int left = 4; left <= 6; left++) {
        String test = left + " " + signs[sign] + " 5";
        boolean is = due[sign][left - 4];
        holds(is, test);
        holds(!is, "not " + test);
        holds(is, "in s0 and " + test);
        holds(is, "next s1 or " + test);
        holds(is, test + " and " + test);
        holds(is, "-5 " + signs[sign] + " -" + left);
      }
    }
  }

  // ---- "Positions of the tape are counted from 0, in bytes."

  private static void positionsFromNought() {
    CHECK.error("!", 1, 0);
    CHECK.error(" !", 1, 1);
    CHECK.error("\n\n!", 1, 2);
    // A byte above 127 is one byte.
    CHECK.error("tongue \u00fc ease 1;", 1, 7);
    CHECK.error("tongue t\u00fc ease 1;", 1, 8);
    // By bytes, not by tokens or lines.
    CHECK.error("tongue aaaaaaaaaa\n\nease 10;", 5, 24);
  }
}
