import java.nio.charset.StandardCharsets;

/** The boundaries of the document's "1. The language"; a comment quotes each sentence. */
public final class EdgesOfLanguageTest extends Lists {
  private static final Check CHECK = new Check("EdgesOfLanguageTest");
  private static final int BLANKS = 0x20202020;
  private static final String TWO =
      "tongue t ease 1;root r of t letters 4 hard 2;word w from r;speller a passes 1;speller b passes 0;";
  private static final String HINT = TWO + "hint a when ";
  private static final String[] KEYWORDS = {
    "tongue", "ease", "root", "of", "letters", "hard", "word", "from", "speller", "passes", "knows",
    "round", "toll", "laps", "words", "hint", "pass", "appeal", "when", "turn", "left", "points",
    "misses", "gap", "in", "next", "not", "and", "or", "min", "max",
  };

  public static void main(String[] args) {
    twoThousandBytes();
    aListOfTwoThousandBytes();
    emptyAtFirst();
    emptyBehindTeach();
    withoutAnyLine();
    blanksAtTheBeginning();
    blanksBetween();
    blanksAtTheEnd();
    blanksThatHaveToStand();
    theLongestToken();
    wordsOfTenBytes();
    numbersOfSixDigits();
    keywordsAreNoNames();
    depthAtRoundBrackets();
    depthAtSquareBrackets();
    depthAtMinus();
    depthAtNot();
    depthOfAll();
    depthEndsAgain();
    fourHundredTokens();
    theFourHundredAndFirst();
    theEndOfTheTape();
    bytesWithWhichNoTokenBegins();
    bytesBehindAWholeList();
    theFirstTokenThatCannotBe();
    tokensInThePlaceOfOthers();
    errorOneGoesFirst();
    theFirstErrorFromTheLeft();
    theSmallestNumberAtOneToken();
    namesToldTwice();
    namesToldAhead();
    tooManyTongues();
    tooManyRoots();
    tooManyWords();
    tooManySpellers();
    tooManyRounds();
    tooManyRootsOfAWord();
    tooManyWordsOfARound();
    tooManyOrders();
    ranges();
    numberedAsTheyAreTold();
    theLatestLineOfATongue();
    othersByNought();
    rootsThatComeSeveralTimes();
    wordsThatComeSeveralTimes();
    CHECK.end();
  }

  private static String times(int n, String text) {
    StringBuilder all = new StringBuilder();
    for (int i = 0; i < n; i++) {
      all.append(text);
    }
    return all.toString();
  }

  /** Lines of one kind, whose names are this one with the numbers from 0 on. */
  private static String lines(int n, String before, String after) {
    StringBuilder all = new StringBuilder();
    for (int i = 0; i < n; i++) {
      all.append(before).append(i).append(after);
    }
    return all.toString();
  }

  // ---- "The tape is a row of at most 2000 bytes, at first empty, which feed and trim fill; teach
  //      reads it as a list, and it is empty behind it."

  private static void twoThousandBytes() {
    BeeTurnpike bee = new BeeTurnpike();
    for (int n = 1; n <= 99; n++) {
      CHECK.same("feed(), the time " + n, bee.feed(BLANKS, BLANKS, BLANKS, BLANKS, BLANKS), 20 * n);
    }
    CHECK.same("feed() to 2000", bee.feed(BLANKS, BLANKS, BLANKS, BLANKS, BLANKS), 2000);
    CHECK.same("bytes of the tape", bee.count(17), 2000);
    CHECK.refused(bee, "feed() behind 2000", IllegalStateException.class,
        () -> bee.feed(BLANKS, BLANKS, BLANKS, BLANKS, BLANKS));
    CHECK.same("bytes of the tape behind it", bee.count(17), 2000);
  }

  private static void aListOfTwoThousandBytes() {
    // The last byte of 2000, at 1999, is read: as what ends the list, as an error, and as missing.
    String full = "tongue t ease 1" + times(1984, " ") + ";";
    CHECK.same("bytes of the list", full.length(), 2000);
    CHECK.fine(full);
    CHECK.error("tongue t ease 1;" + times(1983, "\n") + "!", 1, 1999);
    CHECK.error("tongue t ease 1;" + times(1983, " ") + "1", 1, 1999);
    CHECK.error("tongue t ease 1" + times(1985, " "), 1, 2000);
    CHECK.fine("tongue t ease 1;" + times(1984, " "));
    // A token that ends with the tape's last byte.
    CHECK.error(times(1990, " ") + "tongue ab1", 1, 2000);
    CHECK.error(times(1985, " ") + "tongue ease 123", 1, 1992);
    CHECK.error("tongue t ease " + times(1980, " ") + "123456", 1, 2000);
    CHECK.error("tongue t ease " + times(1979, " ") + "1234567", 1, 1993);
    CHECK.error(HINT + "1" + times(1999 - HINT.length() - 1, " ") + "<", 1, 2000);
  }

  private static void emptyAtFirst() {
    BeeTurnpike bee = new BeeTurnpike();
    CHECK.same("bytes of a new tape", bee.count(17), 0);
    CHECK.same("trim(0) of a new tape", bee.trim(0), 0);
    CHECK.refused(bee, "trim(1) of a new tape", IllegalArgumentException.class, () -> bee.trim(1));
    CHECK.same("teach() of a new tape", bee.teach(), 0);
    CHECK.same("feed() to a new tape", bee.feed(BLANKS, BLANKS, BLANKS, BLANKS, BLANKS), 20);
  }

  private static void emptyBehindTeach() {
    String[] lists = {"tongue t ease 1;", "", "!", "tongue t ease 1;tongue t ease 1;",
        "word w from r;", lines(6, "tongue t", " ease 1;"), "tongue t ease 10;"};
    int[] due = {0, 0, 1, 2, 3, 4, 5};
    BeeTurnpike bee = new BeeTurnpike();
    for (int i = 0; i < lists.length; i++) {
      CHECK.same("teach() of \"" + lists[i] + "\"", Check.teach(bee, lists[i]), due[i]);
      CHECK.same("bytes of the tape behind the error " + due[i], bee.count(17), 0);
      CHECK.refused(bee, "trim(1) behind the error " + due[i], IllegalArgumentException.class,
          () -> bee.trim(1));
      CHECK.same("feed() behind the error " + due[i], bee.feed(0, 0, 0, 0, 0), 20);
      bee.trim(0);
    }
    // Nothing of the list before is read again.
    Check.teach(bee, "tongue t ease 1;tongue u ease 1;");
    CHECK.same("teach() of nothing", bee.teach(), 0);
    CHECK.same("tongues of nothing", bee.count(1), 0);
  }

  // ---- "list = { line ";" }": a list without any line.

  private static void withoutAnyLine() {
    String[] lists = {"", " ", "\n", " \n \n ", times(2000, " "), times(2000, "\n")};
    for (String list : lists) {
      BeeTurnpike bee = Check.taught(TWO + "round o toll 0 laps 1 words w;");
      bee.go(1);
      CHECK.same("teach() of " + list.length() + " blanks", Check.teach(bee, list), 0);
      CHECK.same("errorAt() of " + list.length() + " blanks", bee.errorAt(), -1);
      CHECK.counts(bee, "of a list without any line", 0, 0, 0, 0, 0, 0, 0, 0, -1, -1, -1, 0, 0, 0, 0, 0, 0, 0, 0);
    }
    CHECK.error(";", 1, 0);
    CHECK.error(" ;", 1, 1);
    CHECK.error("tongue t ease 1;;", 1, 16);
  }

  // ---- "Blanks (32) and line ends (10) can stand between tokens, at the beginning and at the end,
  //      and have to stand between two tokens that would otherwise be read as one."

  private static void blanksAtTheBeginning() {
    CHECK.fine(" tongue t ease 1;");
    CHECK.fine("\ntongue t ease 1;");
    CHECK.fine(" \n \n\n  tongue t ease 1;");
    CHECK.errorAtBar(5, " \n tongue t ease |10;");
  }

  private static void blanksBetween() {
    CHECK.fine("tongue\nt\nease\n1\n;\n");
    CHECK.fine("tongue  t \n ease\n\n1 \n\n ;");
    CHECK.fine(HINT + " - ( 1 )\n<= min ( 1 \n , 2 ) and [ in\na ] ;");
    // Within a token they stand between two.
    CHECK.errorAtBar(1, "|ton gue t ease 1;");
    CHECK.errorAtBar(1, "tongue t |u ease 1;");
    CHECK.errorAtBar(1, "tongue t ease 1 |2;");
    CHECK.errorAtBar(1, HINT + "1 < |= 2;");
    CHECK.errorAtBar(1, HINT + "1 >\n|= 2;");
  }

  private static void blanksAtTheEnd() {
    CHECK.fine("tongue t ease 1; ");
    CHECK.fine("tongue t ease 1;\n");
    CHECK.fine("tongue t ease 1;\n \n  \n");
  }

  private static void blanksThatHaveToStand() {
    // Two words, a word and a number, two numbers would be read as one.
    CHECK.errorAtBar(1, "|tonguet ease 1;");
    CHECK.errorAtBar(1, "tongue tease |1;");
    CHECK.errorAtBar(1, "tongue t |ease1;");
    CHECK.errorAtBar(5, "tongue t ease |11;");
    CHECK.errorAtBar(1, "speller a passes 1 knows t1|;");
    // A number and a word, a symbol and anything, two symbols would not.
    CHECK.fine("tongue t ease 1;speller a passes 1knows t 1knows t 2;");
    CHECK.fine(HINT + "1<2and[1=1]or(2)>-1and not[min(1,2)<=max(3,4)];");
    CHECK.fine(HINT + "3>=2or 3=-1;");
  }

  // ---- "The longest possible token is always read."

  private static void theLongestToken() {
    // Keywords that go on are names.
    CHECK.fine("tongue tongues ease 1;tongue ease1 ease 1;tongue inn ease 1;tongue o ease 1;");
    CHECK.fine("tongue nota ease 1;tongue min1 ease 1;tongue wordsx ease 1;tongue passe ease 1;");
    CHECK.errorAtBar(1, HINT + "|ina;");
    CHECK.errorAtBar(1, HINT + "|notin a;");
    CHECK.errorAtBar(1, HINT + "|turn1 = 1;");
    CHECK.errorAtBar(1, HINT + "1 = 1 |or1 = 1;");
    // words is no word and an s, pass no beginning of passes.
    CHECK.errorAtBar(1, "|words w from r;");
    CHECK.errorAtBar(1, "speller a |pass 1;");
    // A number takes all digits, a name all letters and digits.
    CHECK.errorAtBar(5, "tongue t ease |000010;");
    CHECK.errorAtBar(3, "tongue a1b ease 1;root r of |a1 letters 1 hard 1;");
    // <= and >= are one; = ends each.
    CHECK.fine(HINT + "0<=0;");
    CHECK.fine(HINT + "0>=0;");
    CHECK.errorAtBar(1, HINT + "0<=|=0;");
    CHECK.errorAtBar(1, HINT + "0=|<0;");
    CHECK.errorAtBar(1, HINT + "0=|=0;");
    CHECK.errorAtBar(1, HINT + "0<|>0;");
    CHECK.errorAtBar(1, HINT + "0<|<=0;");
  }

  // ---- "A word: a letter a to z, followed by letters a to z and digits, at most 10 bytes."

  private static void wordsOfTenBytes() {
    CHECK.fine("tongue abcdefghij ease 1;");
    CHECK.fine("tongue a123456789 ease 1;");
    CHECK.fine("tongue zzzzzzzzzz ease 1;");
    CHECK.fine("tongue tonguetong ease 1;");
    CHECK.errorAtBar(1, "tongue |abcdefghijk ease 1;");
    CHECK.errorAtBar(1, "tongue |a1234567890 ease 1;");
    CHECK.errorAtBar(1, "|tonguetongue t ease 1;");
    CHECK.errorAtBar(1, "tongue |" + times(40, "abc") + " ease 1;");
    // The tenth byte makes a difference, an eleventh that is a symbol is none of the word.
    CHECK.fine("tongue abcdefghij ease 1;tongue abcdefghik ease 1;tongue abcdefghi ease 1;");
    CHECK.errorAtBar(2, "tongue abcdefghij ease 1;tongue |abcdefghij ease 1;");
    CHECK.fine("speller abcdefghij passes 1;hint abcdefghij when points abcdefghij<1;");
    // One letter, the first and the last of the alphabet.
    CHECK.fine("tongue a ease 1;tongue z ease 1;tongue a0 ease 1;tongue z9 ease 1;");
    // No word begins with a digit, and the signs beside a, z, 0 and 9 are in none.
    CHECK.errorAtBar(1, "tongue |0a ease 1;");
    CHECK.errorAtBar(1, "tongue |`a ease 1;");
    CHECK.errorAtBar(1, "tongue a|{ ease 1;");
    CHECK.errorAtBar(1, "tongue a|: ease 1;");
    CHECK.errorAtBar(1, "tongue a|/ ease 1;");
    CHECK.errorAtBar(1, "tongue |A ease 1;");
    CHECK.errorAtBar(1, "tongue a|Z ease 1;");
  }

  // ---- "A number: 1 to 6 digits."

  private static void numbersOfSixDigits() {
    CHECK.fine("tongue t ease 9;");
    CHECK.fine("tongue t ease 000009;");
    CHECK.fine("tongue t ease 000000;");
    CHECK.errorAtBar(5, "tongue t ease |100000;");
    CHECK.errorAtBar(5, "tongue t ease |999999;");
    CHECK.errorAtBar(1, "tongue t ease |0000009;");
    CHECK.errorAtBar(1, "tongue t ease |0000000;");
    CHECK.errorAtBar(1, "tongue t ease |1000000;");
    CHECK.errorAtBar(1, "tongue t ease |" + times(50, "0") + ";");
    CHECK.fine(HINT + "999999 > 0;");
    CHECK.errorAtBar(1, HINT + "|1000000 > 0;");
    // A sign is none of the number.
    CHECK.fine(HINT + "-999999 < 0;");
    CHECK.errorAtBar(1, "tongue t ease |+1;");
  }

  // ---- "The keywords are: .. All other words are names."

  private static void keywordsAreNoNames() {
    for (String keyword : KEYWORDS) {
      CHECK.errorAtBar(1, "tongue |" + keyword + " ease 1;");
      CHECK.fine("tongue " + keyword.substring(0, keyword.length() - 1) + "q ease 1;");
      CHECK.fine("tongue q" + keyword.substring(1) + " ease 1;");
      if (keyword.length() <= 9) {
        CHECK.fine("tongue " + keyword + "q ease 1;");
        CHECK.fine("tongue q" + keyword + " ease 1;");
      }
    }
  }

  // ---- "Depth. It is 0 at the beginning, and 1 greater between a ( and its ), a [ and its ], behind
  //      a - in front (of a value) for what it turns, and behind a not for what it turns. It may be at
  //      most 8." and "Error 1: .. the (, [, - or not behind which the depth would be 9"

  private static void depthAtRoundBrackets() {
    CHECK.fine(HINT + "((((((((1)))))))) = 1;");
    CHECK.errorAtBar(1, HINT + "((((((((|(1))))))))) = 1;");
    CHECK.fine(HINT + "1 = ((((((((1))))))));");
    CHECK.errorAtBar(1, HINT + "1 = ((((((((|(1)))))))));");
    CHECK.errorAtBar(1, HINT + "((((((((1 + |(1))))))))) = 1;");
    // Of min and max it is the (, on the left side of the comma and on the right one.
    CHECK.fine(HINT + "(((((((min(1,2)))))))) = 1;");
    CHECK.errorAtBar(1, HINT + "((((((((min|(1,2))))))))) = 1;");
    CHECK.errorAtBar(1, HINT + "((((((((max |(1,2))))))))) = 1;");
    CHECK.fine(HINT + "((((((max(min(1,2),1))))))) = 1;");
    CHECK.fine(HINT + "((((((max(1,min(1,2)))))))) = 1;");
    CHECK.errorAtBar(1, HINT + "(((((((max(min|(1,2),1)))))))) = 1;");
    CHECK.errorAtBar(1, HINT + "(((((((max(1,min|(1,2))))))))) = 1;");
    CHECK.errorAtBar(1, HINT + "(((((((max(|(1),1)))))))) = 1;");
    CHECK.errorAtBar(1, HINT + "(((((((max(1,|(1))))))))) = 1;");
  }

  private static void depthAtSquareBrackets() {
    CHECK.fine(HINT + "[[[[[[[[in a]]]]]]]];");
    CHECK.errorAtBar(1, HINT + "[[[[[[[[|[in a]]]]]]]]];");
    CHECK.fine(HINT + "[[[[[[[[in a or 1 = 1]]]]]]]];");
    CHECK.errorAtBar(1, HINT + "[[[[[[[[in a or |[in a]]]]]]]]];");
    CHECK.errorAtBar(1, HINT + "[[[[[[[[in a and |[in a]]]]]]]]];");
  }

  private static void depthAtMinus() {
    CHECK.fine(HINT + "--------1 = 1;");
    CHECK.errorAtBar(1, HINT + "--------|-1 = 1;");
    CHECK.fine(HINT + "1 = --------1;");
    CHECK.errorAtBar(1, HINT + "1 = --------|-1;");
    // The - between two products has no depth.
    CHECK.fine(HINT + "1 - --------1 = 0;");
    CHECK.errorAtBar(1, HINT + "1 - --------|-1 = 0;");
    CHECK.fine(HINT + "1---------1 = 0;");
    CHECK.errorAtBar(1, HINT + "1---------|-1 = 0;");
    CHECK.fine(HINT + "1-1-1-1-1-1-1-1-1-1-1-1 = 0;");
  }

  private static void depthAtNot() {
    CHECK.fine(HINT + times(8, "not ") + "in a;");
    CHECK.errorAtBar(1, HINT + times(8, "not ") + "|not in a;");
    CHECK.fine(HINT + times(8, "not ") + "1 = 1;");
    CHECK.fine(HINT + "in a and " + times(8, "not ") + "in a;");
    CHECK.errorAtBar(1, HINT + "in a or " + times(8, "not ") + "|not in a;");
  }

  private static void depthOfAll() {
    // Two of each are eight; each of the four as the ninth.
    CHECK.fine(HINT + "not [not [-(-(1)) = 1]];");
    CHECK.errorAtBar(1, HINT + "not [not [-(-(|(1))) = 1]];");
    CHECK.errorAtBar(1, HINT + "not [not [-(-(|-1)) = 1]];");
    CHECK.errorAtBar(1, HINT + "not [not [-(-(max|(1,2))) = 1]];");
    CHECK.fine(HINT + "not [not [not [not [in a]]]];");
    CHECK.errorAtBar(1, HINT + "not [not [not [not [|[in a]]]]];");
    CHECK.errorAtBar(1, HINT + "not [not [not [not [|not in a]]]];");
    CHECK.errorAtBar(1, HINT + "not [not [not [not [|(1) = 1]]]];");
    CHECK.errorAtBar(1, HINT + "not [not [not [not [1 = |-1]]]];");
    // Each ninth one behind eight of another.
    CHECK.errorAtBar(1, HINT + "((((((((|-1)))))))) = 1;");
    CHECK.errorAtBar(1, HINT + "--------|(1) = 1;");
    CHECK.errorAtBar(1, HINT + "--------min|(1,2) = 1;");
    CHECK.errorAtBar(1, HINT + "[[[[[[[[|not in a]]]]]]]];");
    CHECK.errorAtBar(1, HINT + "[[[[[[[[|(1) = 1]]]]]]]];");
    CHECK.errorAtBar(1, HINT + "[[[[[[[[|-1 = 1]]]]]]]];");
    CHECK.errorAtBar(1, HINT + times(8, "not ") + "|[in a];");
    CHECK.errorAtBar(1, HINT + times(8, "not ") + "|(1) = 1;");
    CHECK.errorAtBar(1, HINT + times(8, "not ") + "1 = |-1;");
  }

  private static void depthEndsAgain() {
    // Behind its ), its ] and what a - or a not turns it is as ahead of it.
    CHECK.fine(HINT + "((((((((1)))))))) = ((((((((1))))))));");
    CHECK.fine(HINT + "(((((((1) + (1)) * (1)) - (1)) / (1)) + (1)) + (1)) = ((1));");
    CHECK.fine(HINT + "[[[[[[[[in a] and [in a]]]]]]]];");
    CHECK.fine(HINT + "--------1 + --------1 * --------1 = --------1;");
    CHECK.fine(HINT + times(8, "not ") + "in a and " + times(8, "not ") + "in a or " + times(8, "not ") + "in b;");
    CHECK.fine(HINT + "(((((((-1 + -1 - -1))))))) = 1;");
    CHECK.errorAtBar(1, HINT + "(((((((-|-1))))))) = 1;");
    CHECK.fine(HINT + "not 1 = (((((((1)))))));");
    // A not turns one comparison alone, a - one value alone: what stands behind is not within.
    CHECK.fine(HINT + "not in a and ((((((((1)))))))) = 1;");
    CHECK.errorAtBar(1, HINT + "not 1 = (((((((|(1))))))));");
    CHECK.fine(HINT + "-1 * ((((((((1)))))))) = 1;");
    CHECK.errorAtBar(1, HINT + "-(((((((|(1)))))))) = 1;");
    // It is 0 again in the next order.
    CHECK.fine(HINT + "((((((((1)))))))) = 1;pass b when ((((((((1)))))))) = 1;");
  }

  // ---- "and the token that would be the 401st (the end of the tape not counted)"

  /** A fine list of so many tokens: TWO has 5 + 9 + 5 + 5 + 5, the orders have the others. */
  private static String listOfTokens(int tokens) {
    StringBuilder list = new StringBuilder(TWO);
    int left = tokens - 29;
    // hint a when in a ; are six tokens, and each "or in a" three more.
    list.append("hint a when in a");
    left -= 6;
    for (; left >= 3 && left % 2 != 0; left -= 3) {
      list.append(" or in a");
    }
    list.append(" or 1 = 1");
    left -= 4;
    for (; left >= 2; left -= 2) {
      list.append("+1");
    }
    CHECK.same("tokens that are left of " + tokens, left, 0);
    return list.append(';').toString();
  }

  private static void fourHundredTokens() {
    CHECK.fine(listOfTokens(399));
    CHECK.fine(listOfTokens(400));
    // Blanks at its end, and the end of the tape, are none.
    CHECK.fine(listOfTokens(400) + " \n ");
    // The 400th is wanting, or is a wrong one.
    String open = listOfTokens(400);
    open = open.substring(0, open.length() - 1);
    CHECK.error(open, 1, open.length());
    CHECK.error(open + " ", 1, open.length() + 1);
    CHECK.error(open + "!", 1, open.length());
    CHECK.error(open + ")", 1, open.length());
  }

  private static void theFourHundredAndFirst() {
    String full = listOfTokens(400);
    // Whatever it is, it is one too many; the position is that of its first byte.
    String[] tokens = {"tongue", "hint", ";", "x", "1", "!", "12345678", "abcdefghijklm", "<="};
    for (String token : tokens) {
      CHECK.error(full + token, 1, full.length());
      CHECK.error(full + " \n" + token + " ", 1, full.length() + 2);
    }
    // A list that would be fine but for its length: of 401 tokens, of 402 and of more.
    String one = listOfTokens(401);
    CHECK.error(one, 1, one.length() - 1);
    String two = listOfTokens(402);
    CHECK.error(two, 1, two.length() - 2);
    CHECK.error(full + "tongue u ease 1;", 1, full.length());
    // An error 2 to 5 ahead of it is not told.
    String ranged = full.replace("letters 4", "letters 0");
    CHECK.error(ranged, 5, full.indexOf("4 hard"));
    CHECK.error(ranged + "tongue", 1, full.length());
  }

  // ---- "the end of the tape (at its length)"

  private static void theEndOfTheTape() {
    String[] parts = {"tongue", "tongue t", "tongue t ease", "tongue t ease 1", "tongue t ease 1;root",
        HINT + "not", HINT + "[in a", HINT + "(1", HINT + "-", HINT + "min(1,", HINT + "in a and"};
    for (String part : parts) {
      CHECK.error(part, 1, part.length());
      CHECK.error(part + "  ", 1, part.length() + 2);
      CHECK.error(part + "\n", 1, part.length() + 1);
    }
    // What trim cuts off is behind the end.
    BeeTurnpike bee = new BeeTurnpike();
    Check.feed(bee, "tongue t ease 1;");
    bee.trim(15);
    CHECK.same("teach() of what was cut", bee.teach(), 1);
    CHECK.same("errorAt() of what was cut", bee.errorAt(), 15);
    Check.feed(bee, "tongue t ease 12;");
    bee.trim(15);
    bee.feed(0x3b202020, BLANKS, BLANKS, BLANKS, BLANKS);
    CHECK.same("teach() of what was cut and fed again", bee.teach(), 0);
    CHECK.same("ease of what was cut and fed again", bee.count(1), 1);
  }

  // ---- "This includes a byte with which no token begins"

  private static void bytesWithWhichNoTokenBegins() {
    for (int sign = 0; sign <= 255; sign++) {
      byte[] list = "tongue t ease 1?;".getBytes(StandardCharsets.ISO_8859_1);
      list[15] = (byte) sign;
      BeeTurnpike bee = new BeeTurnpike();
      Check.feed(bee, list);
      int error = 1;
      int at = 15;
      if (sign == ' ' || sign == '\n') {
        error = 0;
        at = -1;
      } else if (sign >= '0' && sign <= '9') {
        error = 5;
        at = 14;
      } else if (sign == ';') {
        at = 16;
      }
      CHECK.same("teach() with the byte " + sign, bee.teach(), error);
      CHECK.same("errorAt() with the byte " + sign, bee.errorAt(), at);
    }
    // Where a value could stand: all but what a test can begin with is an error at its place.
    String may = "([-0123456789";
    for (int sign = 0; sign <= 255; sign++) {
      String test = HINT + (char) sign + "!";
      boolean goesOn = may.indexOf(sign) >= 0 || sign == ' ' || sign == '\n';
      CHECK.error(test, 1, HINT.length() + (goesOn ? 1 : 0));
    }
  }

  private static void bytesBehindAWholeList() {
    // Nought, too, is no end of the tape.
    for (int sign = 0; sign <= 255; sign++) {
      boolean blank = sign == ' ' || sign == '\n';
      CHECK.error("tongue t ease 1;" + (char) sign, blank ? 0 : 1, blank ? -1 : 16);
      CHECK.error((char) sign + "!", 1, blank ? 1 : 0);
    }
  }

  // ---- "Error 1: the first token with which the tokens so far are not the beginning of a list."

  private static void theFirstTokenThatCannotBe() {
    // The end of a line, where more has to come, and a sign where another one has to be.
    String[] open = {"", "not ", "[", "in a and ", "in a or ", "1 = ", "1 = 1 + ", "1 = 1 * ", "1 = -", "1 = 1 - ",
        "1 = 1 / ", "1 = (", "1 = (1", "1 = min ", "1 = min(", "1 = min(1", "1 = min(1,", "1 = max(1,2", "in ",
        "next ", "1 = points ", "1 = hard ", "1", "(1)", "1 = 1 and not "};
    for (String test : open) {
      CHECK.errorAtBar(1, HINT + test + "|;");
      CHECK.errorAtBar(1, HINT + test + "|] ;");
      CHECK.errorAtBar(1, HINT + test + "|words;");
      CHECK.error(HINT + test, 1, HINT.length() + test.length());
    }
    CHECK.errorAtBar(1, HINT + "[in a|;");
    CHECK.errorAtBar(1, HINT + "[in a |words;");
    CHECK.fine(HINT + "[in a];");
    CHECK.errorAtBar(1, HINT + "min |< 1;");
    CHECK.errorAtBar(1, HINT + "1 < max |= 1;");
    CHECK.errorAtBar(1, HINT + "min(1, |) < 1;");
    CHECK.errorAtBar(1, HINT + "min(|, 1) < 1;");
    CHECK.errorAtBar(1, HINT + "- |< 1;");
    CHECK.errorAtBar(1, HINT + "1 + |< 1;");
    CHECK.errorAtBar(1, HINT + "1 * |< 1;");
    CHECK.errorAtBar(1, HINT + "( |) < 1;");
    CHECK.errorAtBar(1, HINT + "not |or in a;");
    CHECK.errorAtBar(1, HINT + "in a and |and in a;");
    CHECK.errorAtBar(1, HINT + "in a or |or in a;");
    CHECK.errorAtBar(1, HINT + "1 = |and in a;");
    // Lines, each cut by a ; behind each of its tokens but the last.
    String[] lines = {"tongue u ease 1", "root x of t letters 1 hard 1", "word x from r",
        "speller x passes 1 knows t 1", "round o toll 0 laps 1 words w", "hint a when in a", "pass a when in a",
        "appeal a when in a"};
    for (String line : lines) {
      CHECK.fine(TWO + line + ";");
      for (int at = line.indexOf(' '); at >= 0; at = line.indexOf(' ', at + 1)) {
        boolean whole = line.startsWith("speller x passes 1 knows") && at == "speller x passes 1".length();
        if (whole) {
          CHECK.fine(TWO + line.substring(0, at) + ";");
        } else {
          CHECK.errorAtBar(1, TWO + line.substring(0, at) + "|;");
        }
      }
    }
  }

  private static void tokensInThePlaceOfOthers() {
    String[] symbols = {"(", ")", "[", "]", ";", ",", "+", "-", "*", "/", "<", ">", "=", "<=", ">="};
    for (String symbol : symbols) {
      // Where a name, a number and a keyword have to be.
      CHECK.errorAtBar(1, "tongue |" + symbol + " ease 1;");
      CHECK.errorAtBar(1, "tongue t ease |" + symbol + ";");
      CHECK.errorAtBar(1, "tongue t |" + symbol + " 1;");
      CHECK.errorAtBar(1, HINT + "in |" + symbol + ";");
      CHECK.errorAtBar(1, "|" + symbol + " t ease 1;");
    }
    // Where a symbol has to be: between two sums, behind one, behind min, and at a line's end.
    for (String token : new String[] {"x", "1", "turn", "in", "when", "!"}) {
      CHECK.errorAtBar(1, HINT + "1 |" + token + " 2;");
      CHECK.errorAtBar(1, HINT + "1 < (1 |" + token + ";");
      CHECK.errorAtBar(1, HINT + "1 < min |" + token + " 1, 2);");
      CHECK.errorAtBar(1, HINT + "1 < min(1 |" + token + " 2);");
      CHECK.errorAtBar(1, HINT + "[in a |" + token + ";");
      CHECK.errorAtBar(1, "tongue t ease 1 |" + token + " ");
    }
    // A comparison is one of five signs, a sum has four.
    for (String symbol : new String[] {"(", ")", "[", "]", ";", ","}) {
      CHECK.errorAtBar(1, HINT + "1 |" + symbol + " 2;");
    }
    for (String symbol : new String[] {"<", ">", "=", "<=", ">="}) {
      CHECK.fine(HINT + "1 " + symbol + " 2;");
      CHECK.errorAtBar(1, HINT + "1 " + symbol + " 2 |" + symbol + " 3;");
      CHECK.errorAtBar(1, HINT + "(1 |" + symbol + " 2);");
    }
    for (String symbol : new String[] {"+", "-", "*", "/"}) {
      CHECK.fine(HINT + "1 " + symbol + " 2 = 1;");
      CHECK.errorAtBar(1, HINT + "1 " + symbol + " 2|;");
    }
  }

  // ---- "Only if there is no error 1, keywords, names and numbers are looked at from left to right,
  //      and the first error is told, at its token; of errors at one token the one with the smallest
  //      number."

  private static void errorOneGoesFirst() {
    String[] wrong = {"tongue t ease 1;tongue t ease 1;", "word w from r;",
        lines(6, "tongue t", " ease 1;"), "tongue t ease 10;"};
    for (int i = 0; i < wrong.length; i++) {
      CHECK.error(wrong[i] + "!", 1, wrong[i].length());
      CHECK.error(wrong[i] + "tongue", 1, wrong[i].length() + 6);
      CHECK.error("!" + wrong[i], 1, 0);
    }
  }

  private static void theFirstErrorFromTheLeft() {
    // Each of 2 to 5 ahead of each other one.
    CHECK.errorAtBar(2, "tongue t ease 1;tongue |t ease 10;");
    CHECK.errorAtBar(5, "tongue t ease |10;tongue t ease 1;");
    CHECK.errorAtBar(3, "word w from |r;word w from r;");
    CHECK.errorAtBar(3, "root r of |t letters 0 hard 1;");
    CHECK.errorAtBar(5, "tongue t ease 1;root r of t letters |0 hard 10;word w from x;");
    CHECK.errorAtBar(2, TWO + "word |w from x;");
    CHECK.errorAtBar(4, lines(5, "tongue t", " ease 1;") + "tongue |u ease 10;");
    CHECK.errorAtBar(5, lines(4, "tongue t", " ease 1;") + "tongue u ease |10;tongue v ease 1;");
    CHECK.errorAtBar(3, "speller a passes 0 knows |t 21;");
    CHECK.errorAtBar(5, "speller a passes |4 knows t 21;");
    // In one test, too: the kind of the name told ahead makes no difference.
    CHECK.errorAtBar(3, HINT + "points |x = hard y;");
    CHECK.errorAtBar(3, HINT + "hard |y = points x;");
    CHECK.errorAtBar(3, TWO + "hint |x when in y;");
    // The order that is one too many goes ahead of its names.
    CHECK.errorAtBar(4, TWO + times(20, "pass a when in a;") + "|hint x when in y;");
    // A number of the test is in no range.
    CHECK.fine(HINT + "999999 = 0;");
  }

  private static void theSmallestNumberAtOneToken() {
    // 2 ahead of 4: one too many, and told before.
    CHECK.errorAtBar(2, lines(5, "tongue t", " ease 1;") + "tongue |t4 ease 1;");
    CHECK.errorAtBar(2, "tongue t ease 1;" + lines(10, "root r", " of t letters 1 hard 1;")
        + "root |r9 of t letters 1 hard 1;");
    CHECK.errorAtBar(2, "tongue t ease 1;root r of t letters 1 hard 1;" + lines(12, "word w", " from r;")
        + "word |w11 from r;");
    CHECK.errorAtBar(2, lines(6, "speller s", " passes 1;") + "speller |s0 passes 1;");
    CHECK.errorAtBar(2, TWO + lines(5, "round o", " toll 1 laps 1 words w;") + "round |o2 toll 1 laps 1 words w;");
    // 3 ahead of 4: one too many, and never told.
    CHECK.errorAtBar(3, TWO + "word x from r r r r |y;");
    CHECK.errorAtBar(3, TWO + "round o toll 1 laps 1 words w w w w w w w w |y;");
  }

  // ---- "Error 2: the name behind tongue, root, word, speller or round (at the beginning of a line) is
  //      that of one of the same kind told ahead."

  private static void namesToldTwice() {
    CHECK.errorAtBar(2, "tongue t ease 1;tongue |t ease 1;");
    CHECK.errorAtBar(2, TWO + "root |r of t letters 1 hard 1;");
    CHECK.errorAtBar(2, TWO + "word |w from r;");
    CHECK.errorAtBar(2, TWO + "speller |b passes 1;");
    CHECK.errorAtBar(2, TWO + "round o toll 0 laps 1 words w;round |o toll 0 laps 1 words w;");
    // The name of one of another kind is fine, whichever was told ahead.
    CHECK.fine("tongue n ease 1;root n of n letters 1 hard 1;word n from n;speller n passes 1;"
        + "round n toll 0 laps 1 words n;");
    CHECK.fine("speller n passes 1;tongue n ease 1;root n of n letters 1 hard 1;word n from n;");
    // Behind hard, passes and words in the midst of a line names are no new ones.
    CHECK.fine(HINT + "hard w = passes a;round o toll 0 laps 1 words w;round p toll 0 laps 1 words w;");
  }

  // ---- "Error 3: another name is none of what it has to be, told ahead: .."

  private static void namesToldAhead() {
    // Never told; told of another kind; told behind.
    String[][] places = {
      {"root x of |", " letters 1 hard 1;", "tongue q ease 1;", "root r1 of t letters 1 hard 1;"},
      {"speller x passes 1 knows |", " 1;", "tongue q ease 1;", "word q from r;"},
      {"word x from |", ";", "root q of t letters 1 hard 1;", "word q from r;"},
      {"word x from r |", ";", "root q of t letters 1 hard 1;", "word q from r;"},
      {"word x from r r r |", ";", "root q of t letters 1 hard 1;", "tongue q ease 1;"},
      {"round o toll 0 laps 1 words |", ";", "word q from r;", "root q of t letters 1 hard 1;"},
      {"round o toll 0 laps 1 words w |", ";", "word q from r;", "speller q passes 1;"},
      {"round o toll 0 laps 1 words w w w w w w w |", ";", "word q from r;", "tongue q ease 1;"},
      {"hint |", " when 1 = 1;", "speller q passes 1;", "word q from r;"},
      {"pass |", " when 1 = 1;", "speller q passes 1;", "root q of t letters 1 hard 1;"},
      {"appeal |", " when 1 = 1;", "speller q passes 1;", "tongue q ease 1;"},
      {"hint a when in |", ";", "speller q passes 1;", "word q from r;"},
      {"hint a when next |", ";", "speller q passes 1;", "word q from r;"},
      {"hint a when points |", " = 1;", "speller q passes 1;", "word q from r;"},
      {"hint a when misses |", " = 1;", "speller q passes 1;", "word q from r;"},
      {"hint a when gap |", " = 1;", "speller q passes 1;", "word q from r;"},
      {"hint a when passes |", " = 1;", "speller q passes 1;", "word q from r;"},
      {"hint a when 1 = hard |", ";", "word q from r;", "speller q passes 1;"},
    };
    for (String[] place : places) {
      CHECK.errorAtBar(3, TWO + place[0] + "q" + place[1]);
      CHECK.errorAtBar(3, TWO + place[0] + "q" + place[1] + place[2]);
      CHECK.errorAtBar(3, TWO + place[3] + place[0] + "q" + place[1]);
      CHECK.fine(TWO + place[2] + (place[0] + "q" + place[1]).replace("|", ""));
    }
    // A line's own name is no one told ahead, of a word and a round; a round's name is no other's.
    CHECK.errorAtBar(3, TWO + "word x from |x;");
    CHECK.errorAtBar(3, TWO + "round x toll 0 laps 1 words |x;");
    CHECK.errorAtBar(3, TWO + "round x toll 0 laps 1 words w;hint a when in |x;");
  }

  // ---- "Error 4: the name of the 6th tongue, of the 11th root, of the 13th word, of the 7th speller
  //      or of the 6th round, the 5th root of a word, the 9th word of a round, or the hint, pass or
  //      appeal of the 21st order (of all three together)."

  private static void counted(int kind, int due, String list) {
    CHECK.same("count(" + kind + ") of \"" + list + "\"", Check.taught(list).count(kind), due);
  }

  private static void tooManyTongues() {
    String five = lines(5, "tongue t", " ease 1;");
    counted(1, 5, five);
    CHECK.errorAtBar(4, five + "tongue |x ease 1;");
    // All of them can be known.
    CHECK.fine(five + "speller a passes 0 knows t0 1 knows t1 1 knows t2 1 knows t3 1 knows t4 1;");
  }

  private static void tooManyRoots() {
    String ten = "tongue t ease 1;" + lines(10, "root r", " of t letters 1 hard 1;");
    counted(2, 10, ten);
    CHECK.errorAtBar(4, ten + "root |x of t letters 1 hard 1;");
  }

  private static void tooManyWords() {
    String twelve = "tongue t ease 1;root r of t letters 1 hard 1;" + lines(12, "word w", " from r;");
    counted(3, 12, twelve);
    CHECK.errorAtBar(4, twelve + "word |x from r;");
    // The last of them is found, whatever is told behind it.
    BeeTurnpike bee = Check.taught(twelve + "speller a passes 0;speller b passes 0;"
        + "round o toll 0 laps 1 words w11 w0;");
    CHECK.same("the last of twelve words on turn", bee.count(9), 11);
    CHECK.errorAtBar(2, twelve + "speller a passes 0;word |w11 from r;");
    CHECK.errorAtBar(3, twelve + "speller a passes 0;round o toll 0 laps 1 words |a;");
  }

  private static void tooManySpellers() {
    String six = lines(6, "speller s", " passes 1;");
    counted(4, 6, six);
    CHECK.errorAtBar(4, six + "speller |x passes 1;");
  }

  private static void tooManyRounds() {
    String five = TWO + lines(5, "round o", " toll 1 laps 1 words w;");
    counted(5, 5, five);
    CHECK.errorAtBar(4, five + "round |x toll 1 laps 1 words w;");
  }

  private static void tooManyRootsOfAWord() {
    CHECK.same("roots of a word", Check.taught(TWO + "word x from r r r r;").word(1, 0), 4);
    CHECK.errorAtBar(4, TWO + "word x from r r r r |r;");
    CHECK.errorAtBar(4, TWO + "word x from r r r r |r r;");
    // Of one word, not of all.
    CHECK.fine(TWO + "word x from r r r r;word y from r r r r;");
    CHECK.errorAtBar(4, TWO + "word x from r;word y from r r r r |r;");
  }

  private static void tooManyWordsOfARound() {
    CHECK.fine(TWO + "round o toll 1 laps 1 words w w w w w w w w;");
    CHECK.errorAtBar(4, TWO + "round o toll 1 laps 1 words w w w w w w w w |w;");
    CHECK.errorAtBar(4, TWO + "round o toll 1 laps 1 words w w w w w w w w |w w;");
    // Five rounds of eight words each: each of the forty is there.
    StringBuilder list = new StringBuilder(list(of(0, 0, 0, 0, 0, 0, 0, 0), of(0, 0), 0));
    for (int round = 0; round < 5; round++) {
      list.append("round o").append(round).append(" toll 0 laps 4 words");
      for (int place = 0; place < 8; place++) {
        list.append(" w").append((place * 3 + round) % 8);
      }
      list.append(';');
    }
    BeeTurnpike bee = Check.taught(list.toString());
    for (int turn = 0; turn < 40; turn++) {
      CHECK.same("the word of forty at " + turn, bee.count(9), (turn % 8 * 3 + turn / 8) % 8);
      bee.go(1);
    }
    // Of one round, not of all.
    CHECK.fine(TWO + "round o toll 1 laps 1 words w w w w w w w w;round p toll 1 laps 1 words w w w w w w w w;");
    CHECK.errorAtBar(4, TWO + "round o toll 1 laps 1 words w;round p toll 1 laps 1 words w w w w w w w w |w;");
  }

  private static void tooManyOrders() {
    String[] kinds = {"hint", "pass", "appeal"};
    for (String kind : kinds) {
      String twenty = TWO + times(20, kind + " a when in a;");
      counted(6, 20, twenty);
      CHECK.errorAtBar(4, twenty + "|hint a when in a;");
      CHECK.errorAtBar(4, twenty + "|pass a when in a;");
      CHECK.errorAtBar(4, twenty + "|appeal a when in a;");
    }
    // Of all three together: 7 and 7 and 6.
    String mixed = TWO + times(7, "hint a when in a;pass b when in a;") + times(6, "appeal a when in b;");
    counted(6, 20, mixed);
    CHECK.errorAtBar(4, mixed + "|pass a when in a;");
    // Other lines are none.
    counted(6, 20, mixed + "speller c passes 0;");
  }

  // ---- "Error 5: a number is out of its range: ease 0 to 9, letters 1 to 9, hard 0 to 9, passes 0 to
  //      3, that of knows 0 to 20, toll 0 to 99, laps 1 to 9."

  private static void ranged(int least, int most, String before, String after) {
    CHECK.fine(before + least + after);
    CHECK.fine(before + most + after);
    CHECK.error(before + (most + 1) + after, 5, before.length());
    CHECK.error(before + "999999" + after, 5, before.length());
    if (least > 0) {
      CHECK.error(before + (least - 1) + after, 5, before.length());
    }
  }

  private static void ranges() {
    ranged(0, 9, "tongue x ease ", ";");
    ranged(1, 9, TWO + "root x of t letters ", " hard 0;");
    ranged(0, 9, TWO + "root x of t letters 1 hard ", ";");
    ranged(0, 3, "speller x passes ", ";");
    ranged(0, 20, TWO + "speller x passes 0 knows t ", ";");
    ranged(0, 20, TWO + "speller x passes 0 knows t 20 knows t ", ";");
    ranged(0, 99, TWO + "round x toll ", " laps 1 words w;");
    ranged(1, 9, TWO + "round x toll 0 laps ", " words w;");
    // What was told with the least and with the greatest is told again.
    BeeTurnpike least = Check.taught("tongue t ease 0;root r of t letters 1 hard 0;speller a passes 0 knows t 0;");
    CHECK.same("ease, the least", least.root(0, 3), 0);
    CHECK.same("letters, the least", least.root(0, 1), 1);
    CHECK.same("hard, the least", least.root(0, 2), 0);
    CHECK.same("passes, the least", least.speller(0, 3), 0);
    CHECK.same("knows, the least", least.knows(0, 0), 0);
    BeeTurnpike most = Check.taught("tongue t ease 9;root r of t letters 9 hard 9;speller a passes 3 knows t 20;");
    CHECK.same("ease, the greatest", most.root(0, 3), 9);
    CHECK.same("letters, the greatest", most.root(0, 1), 9);
    CHECK.same("hard, the greatest", most.root(0, 2), 9);
    CHECK.same("passes, the greatest", most.speller(0, 3), 3);
    CHECK.same("knows, the greatest", most.knows(0, 0), 20);
  }

  // ---- "Tongues, roots, words, spellers, rounds and orders .. are numbered from 0 in the order in
  //      which they are told; roots of a word and words of a round, too (one can come several times).
  //      Of several lines of a tongue that a speller knows the latest counts; others she knows by 0."

  private static void numberedAsTheyAreTold() {
    BeeTurnpike bee = Check.taught("speller b passes 2;tongue z ease 7;speller a passes 1;tongue a ease 3;"
        + "root y of a letters 2 hard 5;root b of z letters 1 hard 6;"
        + "word v from b y;word a from y;round q toll 0 laps 1 words a v;");
    CHECK.same("passes of the first", bee.speller(0, 3), 2);
    CHECK.same("passes of the second", bee.speller(1, 3), 1);
    CHECK.same("tongue of the first root", bee.root(0, 0), 1);
    CHECK.same("tongue of the second root", bee.root(1, 0), 0);
    CHECK.same("roots of the first word", bee.word(0, 0), 2);
    CHECK.same("its root at 0", bee.part(0, 0), 1);
    CHECK.same("its root at 1", bee.part(0, 1), 0);
    CHECK.same("roots of the second word", bee.word(1, 0), 1);
    CHECK.same("the word on turn", bee.count(9), 1);
  }

  private static void theLatestLineOfATongue() {
    BeeTurnpike bee = Check.taught("tongue t ease 1;tongue u ease 1;"
        + "speller a passes 0 knows t 3 knows t 20;speller b passes 0 knows t 20 knows u 5 knows t 0;"
        + "speller c passes 0 knows u 1 knows u 2 knows t 4 knows u 3;");
    CHECK.same("of two lines, the greater one behind", bee.knows(0, 0), 20);
    CHECK.same("of two lines, nought behind", bee.knows(1, 0), 0);
    CHECK.same("with another between", bee.knows(1, 1), 5);
    CHECK.same("of one line among others", bee.knows(2, 0), 4);
    CHECK.same("of three lines", bee.knows(2, 1), 3);
  }

  private static void othersByNought() {
    BeeTurnpike bee = Check.taught("tongue t ease 1;speller a passes 0;speller b passes 0 knows t 9;"
        + "tongue u ease 1;speller c passes 0 knows u 8;tongue v ease 1;");
    int[][] due = {{0, 0, 0}, {9, 0, 0}, {0, 8, 0}};
    for (int s = 0; s < 3; s++) {
      for (int t = 0; t < 3; t++) {
        CHECK.same("knows(" + s + ", " + t + ")", bee.knows(s, t), due[s][t]);
      }
    }
    // Nought, too, where a list ahead of this one told more.
    Check.teach(bee, "tongue t ease 1;tongue u ease 1;speller a passes 0;speller b passes 0;");
    CHECK.same("knows(1, 0) of the next list", bee.knows(1, 0), 0);
  }

  private static void rootsThatComeSeveralTimes() {
    BeeTurnpike bee = Check.taught("tongue t ease 1;root r of t letters 3 hard 2;root q of t letters 1 hard 9;"
        + "word w from r q r;word x from r r r r;word y from q;");
    CHECK.same("roots of the first word", bee.word(0, 0), 3);
    CHECK.same("its first root", bee.part(0, 0), 0);
    CHECK.same("its second root", bee.part(0, 1), 1);
    CHECK.same("its third root", bee.part(0, 2), 0);
    CHECK.same("letters of the first word, 3 + 1 + 3", bee.word(0, 1), 7);
    CHECK.same("hard, 2 + 9 + 2 and a fourth of 7", bee.word(0, 2), 14);
    CHECK.same("letters of the second word, 4 times 3", bee.word(1, 1), 12);
    CHECK.same("hard, 4 times 2 and a fourth of 12", bee.word(1, 2), 11);
    CHECK.same("words in which the first root comes", bee.root(0, 4), 2);
    CHECK.same("words in which the second root comes", bee.root(1, 4), 2);
  }

  private static void wordsThatComeSeveralTimes() {
    BeeTurnpike bee = Check.taught("tongue t ease 9;root r of t letters 1 hard 0;word w from r;word x from r;"
        + "speller a passes 0;speller b passes 0;round o toll 0 laps 4 words w w x w;");
    int[] due = {0, 0, 1, 0, 0, 0, 1, 0};
    for (int turn = 0; turn < due.length; turn++) {
      CHECK.same("the word of the turn " + turn, bee.count(9), due[turn]);
      bee.go(1);
    }
    CHECK.same("how often the first word was spelled", bee.word(0, 3), 6);
    CHECK.same("how often the second word was spelled", bee.word(1, 3), 2);
  }
}
