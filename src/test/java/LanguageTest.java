/** Promises 1 to 6: a new object, feed, trim, teach, errorAt, count. */
public final class LanguageTest {
  private static final Check CHECK = new Check("LanguageTest");
  private static final String TWO =
      "tongue la ease 1;root ra of la letters 4 hard 2;word wa from ra;"
      + "speller sa passes 1;speller sb passes 0 knows la 5;";
  private static final String PLAY = TWO + "round ro toll 0 laps 1 words wa;";

  public static void main(String[] args) {
    aNewObject();
    feedAndTrim();
    tokens();
    grammarOfLines();
    grammarOfTests();
    depth();
    fourHundredTokens();
    twice();
    unknown();
    tooMany();
    ranges();
    orderOfErrors();
    anErrorChangesNothing();
    nothingOfTheListBefore();
    nothingOfTheLapBefore();
    taughtTimeAndAgain();
    whatWasTold();
    countRefuses();
    CHECK.end();
  }

  private static void aNewObject() {
    BeeTurnpike bee = new BeeTurnpike();
    for (int what = 0; what <= 17; what++) {
      CHECK.same("count(" + what + ") of a new one", bee.count(what), what >= 7 && what <= 9 ? -1 : 0);
    }
    CHECK.same("errorAt() of a new one", bee.errorAt(), -1);
    CHECK.same("winner() of a new one", bee.winner(), -1);
    CHECK.same("advise() of a new one", bee.advise(), -1);
    CHECK.same("mean() of a new one", bee.mean(), 0.0);
    CHECK.same("go(1) of a new one", bee.go(1), 0);
    long due = 919;
    for (int what = 0; what <= 17; what++) {
      due = due * 31 + (what >= 7 && what <= 9 ? -1 : 0);
    }
    CHECK.same("digest() of a new one", bee.digest(), due);
  }

  private static void feedAndTrim() {
    BeeTurnpike bee = new BeeTurnpike();
    for (int n = 1; n <= 100; n++) {
      CHECK.same("feed, the time " + n, bee.feed(0x20202020, 0x20202020, 0x20200a20, 0x20202020, 0x0a202020), 20 * n);
    }
    CHECK.refused(bee, "feed to a full tape", IllegalStateException.class, () -> bee.feed(0, 0, 0, 0, 0));
    CHECK.same("bytes of a full tape", bee.count(17), 2000);
    CHECK.same("trim(1981)", bee.trim(1981), 1981);
    CHECK.refused(bee, "feed of one too many", IllegalStateException.class, () -> bee.feed(0, 0, 0, 0, 0));
    CHECK.refused(bee, "trim(1982)", IllegalArgumentException.class, () -> bee.trim(1982));
    CHECK.refused(bee, "trim(-1)", IllegalArgumentException.class, () -> bee.trim(-1));
    CHECK.refused(bee, "trim(least)", IllegalArgumentException.class, () -> bee.trim(Integer.MIN_VALUE));
    CHECK.refused(bee, "trim(most)", IllegalArgumentException.class, () -> bee.trim(Integer.MAX_VALUE));
    CHECK.same("trim(1980)", bee.trim(1980), 1980);
    CHECK.same("feed to the brim", bee.feed(0x20202020, 0x20202020, 0x20202020, 0x20202020, 0x20202020), 2000);
    CHECK.same("teach() of 2000 blanks", bee.teach(), 0);
    CHECK.same("the tape behind it", bee.count(17), 0);
    CHECK.same("trim(0) of an empty tape", bee.trim(0), 0);
    CHECK.refused(bee, "trim(1) of an empty tape", IllegalArgumentException.class, () -> bee.trim(1));
    // The highest byte comes first: "tong" "ue a" " eas" "e 3;" blanks.
    bee.feed(0x746f6e67, 0x75652061, 0x20656173, 0x6520333b, 0x20202020);
    CHECK.same("teach() of a fed line", bee.teach(), 0);
    CHECK.same("tongues of a fed line", bee.count(1), 1);
    // A byte above 127 in each place of a number.
    for (int i = 0; i < 4; i++) {
      bee.feed(0x20202020, 0x20202020 ^ (0xa0 << 24 - 8 * i), 0x20202020, 0x20202020, 0x20202020);
      CHECK.same("teach() of a high byte", bee.teach(), 1);
      CHECK.same("errorAt() of a high byte", bee.errorAt(), 4 + i);
    }
  }

  private static void tokens() {
    CHECK.fine("");
    CHECK.fine(" \n  \n");
    CHECK.fine("tongue\nla\nease 9\n;\n");
    CHECK.fine("tongue la ease 000009;");
    CHECK.fine("tongue a123456789 ease 9;");
    CHECK.fine("speller sa passes 1knows la 3;".replace("knows la 3", ""));
    CHECK.fine("tongue la ease 1;speller sa passes 1knows la 3knows la 4;");
    CHECK.fine("tongue tongues ease 1;tongue ease1 ease 2;tongue maxi ease 3;");
    CHECK.errorAtBar(1, "tongue |a1234567890 ease 9;");
    CHECK.errorAtBar(1, "tongue la ease |1234567;");
    CHECK.errorAtBar(1, "tongue la ease |0000001;");
    CHECK.errorAtBar(5, "tongue la ease |999999;");
    CHECK.errorAtBar(1, "|Tongue la ease 1;");
    CHECK.errorAtBar(1, "tongue l|A ease 1;");
    CHECK.errorAtBar(1, "tongue |1a ease 1;");
    CHECK.errorAtBar(1, "tongue la|\t ease 1;");
    CHECK.errorAtBar(1, "tongue la|\r ease 1;");
    CHECK.errorAtBar(1, "tongue la|\0 ease 1;");
    // Nought is a byte as others: it does not end the tape, behind a whole list, either.
    CHECK.errorAtBar(1, "tongue la ease 1;|\0");
    CHECK.errorAtBar(1, "|\0\0\0");
    CHECK.errorAtBar(1, "tongue |la_ ease 1;".replace("|la_", "la|_"));
    CHECK.errorAtBar(1, "tongue la|\u00ff ease 1;");
    CHECK.errorAtBar(1, "tongue la|\u00e1 ease 1;");
    CHECK.errorAtBar(1, "|tonguela ease 1;");
    CHECK.errorAtBar(1, "tongue la |ease1;");
    CHECK.errorAtBar(1, "|!");
    CHECK.errorAtBar(1, "tongue la ease 1 |2;");
    CHECK.errorAtBar(1, "tongue la ease |-1;");
    CHECK.errorAtBar(1, "|;");
    // The longest symbol is read: <= and >= are one, = < and = > are two, < = is two.
    CHECK.fine(TWO + "hint sa when turn<=-1;hint sa when turn>=turn;hint sa when turn=-1;");
    CHECK.errorAtBar(1, TWO + "hint sa when turn =|< 1;");
    CHECK.errorAtBar(1, TWO + "hint sa when turn =|> 1;");
    CHECK.errorAtBar(1, TWO + "hint sa when turn < |= 1;");
    CHECK.errorAtBar(1, TWO + "hint sa when turn > |= 1;");
    CHECK.errorAtBar(1, TWO + "hint sa when turn <=|= 1;");
    CHECK.errorAtBar(1, TWO + "hint sa when turn >|< 1;");
    // A word of digits goes on to the end: 12x is a number and a word.
    CHECK.errorAtBar(1, TWO + "hint sa when 12|x < 1;");
    CHECK.fine(TWO + "hint sa when 12<1or 3<4and not 5<6;");
  }

  private static void grammarOfLines() {
    CHECK.errorAtBar(1, "tongue|");
    CHECK.errorAtBar(1, "tongue  \n |");
    CHECK.errorAtBar(1, "tongue |ease ease 1;");
    CHECK.errorAtBar(1, "tongue la ease 1|");
    CHECK.errorAtBar(1, "tongue la |1;");
    CHECK.errorAtBar(1, "tongue la ease |x;");
    CHECK.errorAtBar(1, "tongue la ease 1;|;");
    CHECK.errorAtBar(1, "tongue la ease 1;|la");
    CHECK.errorAtBar(1, "root ra of la letters 1 |;");
    CHECK.errorAtBar(1, "root ra of la |hard 1;");
    CHECK.errorAtBar(1, "root ra of la letters 1 hard 1 |hard");
    CHECK.errorAtBar(1, "word wa from |;");
    CHECK.errorAtBar(1, "word wa from ra |1;");
    CHECK.errorAtBar(1, "word wa from ra |from;");
    CHECK.errorAtBar(1, "word wa |ra;");
    CHECK.errorAtBar(1, "speller sa |;");
    CHECK.errorAtBar(1, "speller sa passes 1 knows |1;");
    CHECK.errorAtBar(1, "speller sa passes 1 knows la |;");
    CHECK.errorAtBar(1, "speller sa passes 1 knows la 1 |la 1;");
    CHECK.errorAtBar(1, "speller sa |knows la 1;");
    CHECK.errorAtBar(1, "round ro toll 1 laps 1 words |;");
    CHECK.errorAtBar(1, "round ro toll 1 laps 1 |word wa;");
    CHECK.errorAtBar(1, "round ro |laps 1;");
    CHECK.errorAtBar(1, "hint |when turn = 1;");
    CHECK.errorAtBar(1, "pass sa |turn = 1;");
    CHECK.errorAtBar(1, "appeal sa when |;");
    CHECK.errorAtBar(1, "|skip sa when turn = 1;");
    CHECK.errorAtBar(1, "|when");
    CHECK.errorAtBar(1, "|words");
  }

  private static void grammarOfTests() {
    String hint = PLAY + "hint sa when ";
    CHECK.fine(hint + "turn+left*points sa/misses sa-gap sb<passes sb+hard wa;");
    CHECK.fine(hint + "not[in sa or next sb]and not not in sb;");
    CHECK.fine(hint + "min(1,2)+max(turn,-left)=-(3);");
    CHECK.fine(hint + "[[turn=1]];");
    CHECK.errorAtBar(1, hint + "turn|;");
    CHECK.errorAtBar(1, hint + "turn |and turn = 1;");
    CHECK.errorAtBar(1, hint + "turn = 1 |= 1;");
    CHECK.errorAtBar(1, hint + "turn = |in sa;");
    CHECK.errorAtBar(1, hint + "turn = |not 1;");
    CHECK.errorAtBar(1, hint + "(turn |= 1);");
    CHECK.errorAtBar(1, hint + "([|turn = 1]);".replace("([|", "(|["));
    CHECK.errorAtBar(1, hint + "[turn = 1|);");
    CHECK.errorAtBar(1, hint + "[turn|] = 1;");
    CHECK.errorAtBar(1, hint + "turn = 1|];");
    CHECK.errorAtBar(1, hint + "turn = 1|);");
    CHECK.errorAtBar(1, hint + "turn = 1 or |;");
    CHECK.errorAtBar(1, hint + "turn = 1 and |or;");
    CHECK.errorAtBar(1, hint + "in |1;");
    CHECK.errorAtBar(1, hint + "in |turn;");
    CHECK.errorAtBar(1, hint + "in sa |= 1;");
    CHECK.errorAtBar(1, hint + "points |= 1;");
    CHECK.errorAtBar(1, hint + "|sa = 1;");
    CHECK.errorAtBar(1, hint + "turn + |* 1 = 1;");
    CHECK.errorAtBar(1, hint + "turn |1 = 1;");
    CHECK.errorAtBar(1, hint + "|+ 1 = 1;");
    CHECK.errorAtBar(1, hint + "min|[1,2] = 1;");
    CHECK.errorAtBar(1, hint + "min(1|) = 1;");
    CHECK.errorAtBar(1, hint + "max(1,2|,3) = 1;");
    CHECK.errorAtBar(1, hint + "max(1 |< 2, 3) = 1;");
    CHECK.errorAtBar(1, hint + "|words = 1;");
    CHECK.errorAtBar(1, hint + "turn = 1|");
    CHECK.errorAtBar(1, hint + "turn = 1 |when;");
  }

  private static void depth() {
    String hint = PLAY + "hint sa when ";
    CHECK.fine(hint + "((((((((1)))))))) = 1;");
    CHECK.errorAtBar(1, hint + "((((((((|(1))))))))) = 1;");
    CHECK.fine(hint + "1 = --------1;");
    CHECK.errorAtBar(1, hint + "1 = --------|-1;");
    CHECK.fine(hint + "not not not not not not not not in sa;");
    CHECK.errorAtBar(1, hint + "not not not not not not not not |not in sa;");
    CHECK.fine(hint + "[[[[[[[[in sa]]]]]]]];");
    CHECK.errorAtBar(1, hint + "[[[[[[[[|[in sa]]]]]]]]];");
    CHECK.fine(hint + "1 = min(1,max(1,min(1,max(1,min(1,max(1,min(1,max(1,2))))))));");
    CHECK.errorAtBar(1, hint + "1 = min(1,max(1,min(1,max(1,min(1,max(1,min(1,max(1,min|(2))))))));");
    // All kinds together, and what is closed again no longer counts.
    CHECK.fine(hint + "[not [not (-(-1)) = 1] ] and [not [not -(-(1-1)-(1)) = -1]];");
    CHECK.fine(hint + "not [not [-(-(1)) = 1 and -(-(1)) = 1]] or not [not [in sa]];");
    CHECK.errorAtBar(1, hint + "not [not [-(-(|-1)) = 1]];");
    CHECK.errorAtBar(1, hint + "not [not [-(-(|(1))) = 1]];");
    CHECK.errorAtBar(1, hint + "not [not [-(-(max|(1,2))) = 1]];");
    CHECK.errorAtBar(1, hint + "not [not [not [not [|[in sa]]]]];");
    CHECK.errorAtBar(1, hint + "not [not [not [not [|not in sa]]]];");
    CHECK.fine(hint + "not [not [not [not [in sa and 1 - 1 * 1 = 0]]]];");
    CHECK.fine(hint + "- 1 = - 1 and - 1 = - 1 and - 1 = - 1 and - 1 = - 1 and - 1 = - 1;");
    CHECK.fine(hint + "1 - - - - - - - - - 1 = 1;");
    CHECK.errorAtBar(1, hint + "1 - - - - - - - - - |- 1 = 1;");
  }

  private static void fourHundredTokens() {
    // Four tokens and a semicolon each: eighty of these are four hundred tokens, the sixth is twice.
    StringBuilder list = new StringBuilder();
    for (int n = 0; n < 80; n++) {
      list.append("tongue t").append(n).append(" ease 1;");
    }
    String text = list.toString();
    CHECK.error(text, 4, text.indexOf("t5 "));
    CHECK.error(text + " \n ", 4, text.indexOf("t5 "));
    CHECK.error(text + " t", 1, text.length() + 1);
    CHECK.error(text + "tongue la ease 1;", 1, text.length());
    CHECK.error(text + "  !", 1, text.length() + 2);
    // Three hundred and ninety-nine, and the end of the tape.
    CHECK.error(text.substring(0, text.length() - 1), 1, text.length() - 1);
    String open = text.substring(0, text.length() - 1) + "1";
    CHECK.error(open, 1, open.length());
    // A list of four hundred that is fine: PLAY, and an order that fills it up.
    StringBuilder order = new StringBuilder(PLAY + "hint sa when 1=1");
    int tokens = 5 + 9 + 5 + 5 + 8 + 9 + 6;
    while (tokens + 4 <= 399) {
      order.append("or 1=1");
      tokens += 4;
    }
    for (; tokens < 399; tokens += 2) {
      order.append("+1");
    }
    CHECK.same("tokens of a list of four hundred", tokens, 399);
    CHECK.fine(order + ";");
    CHECK.error(order + "+1;", 1, order.length() + 1);
  }

  private static void twice() {
    CHECK.errorAtBar(2, "tongue la ease 1;tongue |la ease 1;");
    CHECK.errorAtBar(2, TWO + "root |ra of la letters 1 hard 1;");
    CHECK.errorAtBar(2, TWO + "word |wa from ra;");
    CHECK.errorAtBar(2, TWO + "speller |sb passes 1;");
    CHECK.errorAtBar(2, PLAY + "round |ro toll 1 laps 1 words wa;");
    // The same name can be that of one of each kind.
    CHECK.fine("tongue a ease 1;root a of a letters 1 hard 1;word a from a;speller a passes 1 knows a 1;"
        + "round a toll 1 laps 1 words a;hint a when in a and hard a = points a;");
    // Names differ by their length and by each sign.
    CHECK.fine("tongue a ease 1;tongue ab ease 1;tongue a1 ease 1;tongue b ease 1;tongue abc ease 1;");
  }

  private static void unknown() {
    CHECK.errorAtBar(3, "tongue la ease 1;root ra of |lb letters 1 hard 1;");
    CHECK.errorAtBar(3, "root ra of |la letters 1 hard 1;tongue la ease 1;");
    CHECK.errorAtBar(3, "speller sa passes 1 knows |la 1;tongue la ease 1;");
    CHECK.errorAtBar(3, TWO + "word wb from ra |rb;");
    CHECK.errorAtBar(3, TWO + "word wb from |wb;");
    CHECK.errorAtBar(3, TWO + "word wb from |la;");
    CHECK.errorAtBar(3, TWO + "round rx toll 1 laps 1 words wa |wb;");
    CHECK.errorAtBar(3, TWO + "hint |sc when turn = 1;");
    CHECK.errorAtBar(3, TWO + "pass |sc when turn = 1;");
    CHECK.errorAtBar(3, TWO + "appeal |sc when turn = 1;speller sc passes 1;");
    CHECK.errorAtBar(3, TWO + "hint sa when in |wa;");
    CHECK.errorAtBar(3, TWO + "hint sa when next |ra;");
    CHECK.errorAtBar(3, TWO + "hint sa when points |wa = 1;");
    CHECK.errorAtBar(3, TWO + "hint sa when misses |la = 1;");
    CHECK.errorAtBar(3, TWO + "hint sa when 1 = gap |x;");
    CHECK.errorAtBar(3, TWO + "hint sa when passes |y = 1;");
    CHECK.errorAtBar(3, TWO + "hint sa when hard |sa = 1;");
    CHECK.errorAtBar(3, TWO + "hint sa when hard |ra = 1;");
  }

  private static String lines(String before, String after, int from, int to) {
    StringBuilder text = new StringBuilder();
    for (int n = from; n < to; n++) {
      text.append(before).append((char) ('a' + n)).append(after);
    }
    return text.toString();
  }

  private static void tooMany() {
    String tongues = lines("tongue t", " ease 1;", 0, 5);
    CHECK.fine(tongues);
    CHECK.errorAtBar(4, tongues + "tongue |tx ease 1;");
    String roots = "tongue la ease 1;" + lines("root r", " of la letters 1 hard 1;", 0, 10);
    CHECK.fine(roots);
    CHECK.errorAtBar(4, roots + "root |rx of la letters 1 hard 1;");
    String words = "tongue la ease 1;root r of la letters 1 hard 1;" + lines("word w", " from r;", 0, 12);
    CHECK.fine(words);
    CHECK.errorAtBar(4, words + "word |wx from r;");
    String spellers = lines("speller s", " passes 1;", 0, 6);
    CHECK.fine(spellers);
    CHECK.errorAtBar(4, spellers + "speller |sx passes 1;");
    String rounds = TWO + lines("round r", " toll 1 laps 1 words wa;", 0, 5);
    CHECK.fine(rounds);
    CHECK.errorAtBar(4, rounds + "round |rx toll 1 laps 1 words wa;");
    CHECK.fine(TWO + "word wb from ra ra ra ra;");
    CHECK.errorAtBar(4, TWO + "word wb from ra ra ra ra |ra;");
    CHECK.fine(TWO + "round rx toll 1 laps 1 words wa wa wa wa wa wa wa wa;");
    CHECK.errorAtBar(4, TWO + "round rx toll 1 laps 1 words wa wa wa wa wa wa wa wa |wa;");
    StringBuilder orders = new StringBuilder(TWO);
    String[] kinds = {"hint", "pass", "appeal"};
    for (int n = 0; n < 20; n++) {
      orders.append(kinds[n % 3]).append(" sa when in sb;");
    }
    CHECK.fine(orders.toString());
    for (String kind : kinds) {
      CHECK.errorAtBar(4, orders + "|" + kind + " sa when in sb;");
      CHECK.errorAtBar(4, orders + "|" + kind + " nobody when in sb;");
    }
    // The count is of one word or round alone.
    CHECK.fine(TWO + "word wb from ra ra ra;word wc from ra ra ra;"
        + "round rx toll 1 laps 1 words wa wa wa wa wa;round ry toll 1 laps 1 words wa wa wa wa wa;");
    // Of errors at one token the smallest number is told.
    CHECK.errorAtBar(2, tongues + "tongue |ta ease 1;");
    CHECK.errorAtBar(3, TWO + "word wb from ra ra ra ra |rb;");
    CHECK.errorAtBar(3, TWO + "round rx toll 1 laps 1 words wa wa wa wa wa wa wa wa |wb;");
  }

  private static void ranges() {
    int[][] due = {{0, 9}, {1, 9}, {0, 9}, {0, 3}, {0, 20}, {0, 99}, {1, 9}};
    String[] before = {
      "tongue lx ease |", TWO + "root rx of la letters |", TWO + "root rx of la letters 1 hard |",
      "speller sx passes |", TWO + "speller sx passes 1 knows la |",
      TWO + "round rx toll |", TWO + "round rx toll 1 laps |",
    };
    String[] after = {";", " hard 1;", ";", ";", ";", " laps 1 words wa;", " words wa;"};
    for (int i = 0; i < due.length; i++) {
      CHECK.fine((before[i] + due[i][0] + after[i]).replace("|", ""));
      CHECK.fine((before[i] + due[i][1] + after[i]).replace("|", ""));
      CHECK.errorAtBar(5, before[i] + (due[i][1] + 1) + after[i]);
      CHECK.errorAtBar(5, before[i] + 999999 + after[i]);
      if (due[i][0] == 1) {
        CHECK.errorAtBar(5, before[i] + 0 + after[i]);
      }
    }
    CHECK.fine(TWO + "hint sa when 999999 > 0;");
  }

  private static void orderOfErrors() {
    // Error 1 goes ahead of all others, wherever it stands.
    CHECK.errorAtBar(1, "tongue la ease 10;tongue la ease 1|");
    CHECK.errorAtBar(1, "word wa from nothing;|tonguer");
    // Of the others the first one in the list is told.
    CHECK.errorAtBar(5, "tongue la ease |10;tongue la ease 1;");
    CHECK.errorAtBar(2, "tongue la ease 1;tongue |la ease 10;");
    CHECK.errorAtBar(3, "root ra of |la letters 10 hard 10;");
    CHECK.errorAtBar(5, "tongue la ease 1;root ra of la letters |10 hard 10;");
    CHECK.errorAtBar(3, "speller sa passes 1 knows |la 21;");
  }

  private static void anErrorChangesNothing() {
    BeeTurnpike bee = Check.taught(PLAY);
    bee.award(0, 3);
    bee.hint();
    bee.go(1);
    long digest = bee.digest();
    int place = "tongue la ease ".length();
    CHECK.same("teach() of a bad list", Check.teach(bee, "tongue la ease 11;"), 5);
    CHECK.same("errorAt() of a bad list", bee.errorAt(), place);
    CHECK.same("the digest behind a bad list", bee.digest(), digest);
    CHECK.same("the tape behind a bad list", bee.count(17), 0);
    // What is taught next is read as if nothing had been told.
    CHECK.same("teach() of an empty list", bee.teach(), 0);
    CHECK.same("errorAt() of an empty list", bee.errorAt(), -1);
    CHECK.same("the digest of an empty list", bee.digest(), new BeeTurnpike().digest());
    CHECK.same("teach() anew", Check.teach(bee, PLAY), 0);
    CHECK.same("the digest anew", bee.digest(), Check.taught(PLAY).digest());
    bee.go(2);
    Check.teach(bee, PLAY);
    CHECK.same("the digest of the same list anew", bee.digest(), Check.taught(PLAY).digest());
    // errorAt() stays till the next teach().
    Check.teach(bee, "tongue");
    bee.feed(1, 2, 3, 4, 5);
    CHECK.same("errorAt() behind feed", bee.errorAt(), 6);
  }

  /** A list taught in the place of a longer one plays as it does on a new object. */
  private static void nothingOfTheListBefore() {
    String longer = "tongue lb ease 9;tongue la ease 9;root rb of lb letters 9 hard 9;"
        + "root ra of lb letters 9 hard 9;word wb from rb rb rb ra;word wa from ra rb rb ra;"
        + "speller sc passes 3 knows la 20 knows lb 20;speller sb passes 3 knows lb 9;speller sa passes 3;"
        + "speller sd passes 3;round ry toll 9 laps 1 words wb wb wa;round rx toll 9 laps 9 words wb;"
        + "hint sc when turn >= 0;pass sc when turn >= 0;pass sb when turn >= 0;appeal sc when turn >= 0;";
    BeeTurnpike bee = Check.taught(longer);
    bee.award(0, 20);
    bee.hint();
    bee.go(2);
    CHECK.same("teach() of a shorter list", Check.teach(bee, PLAY), 0);
    BeeTurnpike fresh = Check.taught(PLAY);
    for (int turn = 0; turn <= 2; turn++) {
      CHECK.same("the digest of the shorter list behind " + turn, bee.digest(), fresh.digest());
      CHECK.same("strong(0, 0) of the shorter list", bee.strong(0, 0), fresh.strong(0, 0));
      CHECK.same("winner() of the shorter list", bee.winner(), fresh.winner());
      CHECK.same("go(1) of the shorter list", bee.go(1), fresh.go(1));
    }
  }

  /** Who went out in a lap that was not ended has nothing of that in the bee that begins anew. */
  private static void nothingOfTheLapBefore() {
    String list = "tongue la ease 0;root ra of la letters 1 hard 9;word wa from ra;"
        + "speller sa passes 1;speller sb passes 0;round ro toll 0 laps 2 words wa;";
    BeeTurnpike bee = Check.taught(list);
    bee.go(3);
    CHECK.same("who is out in the midst of a lap", bee.speller(0, 0), 0);
    Check.teach(bee, list);
    bee.skip();
    bee.go(1);
    CHECK.same("misses of who passed the word on", bee.speller(0, 2), 0);
    CHECK.same("misses of who spelled", bee.speller(1, 2), 1);
  }

  /** Long tests of many lists, with and without an error, do not crowd out one another. */
  private static void taughtTimeAndAgain() {
    StringBuilder sum = new StringBuilder("turn");
    for (int n = 0; n < 100; n++) {
      sum.append("+1");
    }
    String list = PLAY + "hint sa when " + sum + "=100;";
    BeeTurnpike bee = new BeeTurnpike();
    for (int n = 0; n < 10; n++) {
      CHECK.same("teach(), the time " + n, Check.teach(bee, list), 0);
      bee.award(0, 1);
      CHECK.same("foresee(1, 13), the time " + n, bee.foresee(1, 13), 1);
      CHECK.same("teach() with an error, the time " + n, Check.teach(bee, list + "hint sc when in sa;"), 3);
      CHECK.same("foresee(1, 13) behind an error, the time " + n, bee.foresee(1, 13), 1);
    }
  }

  private static void whatWasTold() {
    BeeTurnpike bee = Check.taught(
        "tongue la ease 1;tongue lb ease 2;"
        + "speller sa passes 1;speller sb passes 2 knows la 3 knows lb 4 knows la 5;"
        + "hint sa when in sb;"
        + "root ra of lb letters 4 hard 2;root rb of la letters 3 hard 9;root rc of la letters 9 hard 0;"
        + "speller sc passes 3;"
        + "word wa from ra rb;word wb from rb rb ra;"
        + "round ro toll 50 laps 9 words wb wa wb;"
        + "pass sa when in sb;appeal sc when in sb;hint sa when in sb;");
    int[] due = {0, 2, 3, 2, 3, 1, 4, 0, 0, 1, 3, 0, 0, 0, 0, 0, 0, 0};
    for (int what = 0; what < due.length; what++) {
      CHECK.same("count(" + what + ")", bee.count(what), due[what]);
    }
    CHECK.same("knows(0, 0)", bee.knows(0, 0), 0);
    CHECK.same("knows(1, 0)", bee.knows(1, 0), 5);
    CHECK.same("knows(1, 1)", bee.knows(1, 1), 4);
    CHECK.same("knows(2, 1)", bee.knows(2, 1), 0);
    Check.feed(bee, "ab");
    CHECK.same("count(17)", bee.count(17), 2);
    // One speller, or no round: the bee is over, but the spellers are in.
    BeeTurnpike one = Check.taught("tongue la ease 1;root ra of la letters 4 hard 2;word wa from ra;"
        + "speller sa passes 1;round ro toll 0 laps 1 words wa;");
    BeeTurnpike none = Check.taught(TWO);
    for (int what = 7; what <= 9; what++) {
      CHECK.same("count(" + what + ") of one speller", one.count(what), -1);
      CHECK.same("count(" + what + ") without a round", none.count(what), -1);
    }
    CHECK.same("left of one speller", one.count(10), 1);
    CHECK.same("left without a round", none.count(10), 2);
    CHECK.same("speller(0, 0) of one speller", one.speller(0, 0), 1);
    CHECK.same("winner() of one speller", one.winner(), 0);
  }

  private static void countRefuses() {
    BeeTurnpike bee = Check.taught(PLAY);
    for (int what : new int[] {-1, 18, Integer.MIN_VALUE, Integer.MAX_VALUE}) {
      CHECK.refused(bee, "count(" + what + ")", IndexOutOfBoundsException.class, () -> bee.count(what));
    }
  }
}
