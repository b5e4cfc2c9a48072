import java.util.Arrays;

/** A spelling bee on a turnpike of words. */
public final class BeeTurnpike {
  private static final int TAPE_BYTES = 2000;
  private static final int FEED_BYTES = 20;
  private static final int MAX_TOKENS = 400;
  private static final int MAX_WORD_BYTES = 10;
  private static final int MAX_DIGITS = 6;
  private static final int MAX_DEPTH = 8;

  private static final int MAX_TONGUES = 5;
  private static final int MAX_ROOTS = 10;
  private static final int MAX_WORDS = 12;
  private static final int MAX_SPELLERS = 6;
  private static final int MAX_ROUNDS = 5;
  private static final int MAX_ORDERS = 20;
  private static final int MAX_PARTS = 4;
  private static final int MAX_ROUND_WORDS = 8;

  private static final int MAX_KNOWLEDGE = 20;
  private static final int MAX_HEARD_COUNTED = 5;
  private static final int MAX_HINTS = 2;
  private static final int HINT_STRENGTH = 3;
  private static final int MISSES_TO_GO = 2;
  private static final int APPEAL_REACH = 2;
  private static final int MAX_GO = 60;

  // No bee lasts so long: 5 rounds of 9 laps with 6 spellers are 270 turns.
  private static final int ALL_TURNS = 10000;

  // What is told and counted, in the order in which count() tells it from 1 on.
  private static final int TONGUES = 0;
  private static final int ROOTS = 1;
  private static final int WORDS = 2;
  private static final int SPELLERS = 3;
  private static final int ROUNDS = 4;
  private static final int ORDERS = 5;
  private static final int KINDS = 6;
  private static final int MAX_OF_A_KIND = 12;

  // What is added up, in the order in which count() tells it from 11 on.
  private static final int RIGHT = 0;
  private static final int WRONG = 1;
  private static final int HINTS = 2;
  private static final int PASSED = 3;
  private static final int GRANTED = 4;
  private static final int LOST = 5;
  private static final int TOTALS = 6;
  private static final int FIRST_TOTAL = 11;

  // The kinds of tokens. Keywords stay under 40, so that a symbol of one sign can bear that sign
  // as its number.
  private static final int KEYWORDS = 31;
  private static final int TONGUE = 0;
  private static final int EASE = 1;
  private static final int ROOT = 2;
  private static final int OF = 3;
  private static final int LETTERS = 4;
  private static final int HARD = 5;
  private static final int WORD = 6;
  private static final int FROM = 7;
  private static final int SPELLER = 8;
  private static final int PASSES = 9;
  private static final int KNOWS = 10;
  private static final int ROUND = 11;
  private static final int TOLL = 12;
  private static final int LAPS = 13;
  private static final int WORDS_LISTED = 14;
  private static final int HINT = 15;
  private static final int PASS = 16;
  private static final int APPEAL = 17;
  private static final int WHEN = 18;
  private static final int TURN = 19;
  private static final int LEFT = 20;
  private static final int POINTS = 21;
  private static final int MISSES = 22;
  private static final int GAP = 23;
  private static final int IN = 24;
  private static final int NEXT = 25;
  private static final int NOT = 26;
  private static final int AND = 27;
  private static final int OR = 28;
  private static final int MIN = 29;
  private static final int MAX = 30;

  private static final String SYMBOLS = "()[];,+-*/<>=";
  private static final int AT_MOST = 256;
  private static final int AT_LEAST = 257;
  private static final int NAME = 258;
  private static final int NUMBER = 259;
  private static final int END = 260;
  private static final int BAD = 261;
  private static final int TURNED = 262;

  // What a token has to be looked at for, once the grammar has been found to hold.
  private static final int NOTHING = 0;
  private static final int NEW_TONGUE = 1;
  private static final int NEW_ROOT = 2;
  private static final int NEW_WORD = 3;
  private static final int NEW_SPELLER = 4;
  private static final int NEW_ROUND = 5;
  private static final int NEW_ORDER = 6;
  private static final int OF_TONGUE = 7;
  private static final int KNOWN_TONGUE = 8;
  private static final int PART_ROOT = 9;
  private static final int LISTED_WORD = 10;
  private static final int ORDER_SPELLER = 11;
  private static final int TEST_SPELLER = 12;
  private static final int TEST_WORD = 13;
  private static final int EASE_NUMBER = 14;
  private static final int LETTERS_NUMBER = 15;
  private static final int HARD_NUMBER = 16;
  private static final int PASSES_NUMBER = 17;
  private static final int KNOWS_NUMBER = 18;
  private static final int TOLL_NUMBER = 19;
  private static final int LAPS_NUMBER = 20;

  private static final int NO_ERROR = 0;
  private static final int ERROR_GRAMMAR = 1;
  private static final int ERROR_TWICE = 2;
  private static final int ERROR_UNKNOWN = 3;
  private static final int ERROR_TOO_MANY = 4;
  private static final int ERROR_RANGE = 5;

  private static final int DO_NOTHING = 0;
  private static final int DO_HINT = 1;
  private static final int DO_PASS = 2;

  private final Tape tape = new Tape();
  private final Tokens tokens = new Tokens(tape);
  private final Told told = new Told();
  // A list is read into a draft, so that one with an error leaves what was told as it was.
  private final Told draft = new Told();
  private final Grammar grammar = new Grammar(tokens, draft.code);
  private final Teller teller = new Teller(tokens, draft);
  private final Bee bee = new Bee(told);
  // What would be is played by a copy of the bee; both are made once, as nothing is ever freed.
  private final Bee ghost = new Bee(told);
  private int errorPosition = -1;

  public BeeTurnpike() {
  }

  // ---- the language

  public int feed(int a, int b, int c, int d, int e) throws IllegalStateException {
    if (tape.length > TAPE_BYTES - FEED_BYTES) {
      throw new IllegalStateException("the tape would have more than 2000 bytes");
    }
    tape.append(a);
    tape.append(b);
    tape.append(c);
    tape.append(d);
    tape.append(e);
    return tape.length;
  }

  public int trim(int n) throws IllegalArgumentException {
    if (n < 0 || n > tape.length) {
      throw new IllegalArgumentException("the tape has not so many bytes");
    }
    tape.length = n;
    return n;
  }

  public int teach() {
    tokens.split();
    int error = ERROR_GRAMMAR;
    int errorToken = grammar.read();
    if (errorToken < 0) {
      error = teller.read();
      errorToken = teller.errorToken;
    }
    errorPosition = error == NO_ERROR ? -1 : get(tokens.starts, errorToken);
    tape.length = 0;
    if (error == NO_ERROR) {
      told.copyFrom(draft);
      bee.begin();
    }
    return error;
  }

  public int errorAt() {
    return errorPosition;
  }

  public int count(int what) throws IndexOutOfBoundsException {
    if (what < 0 || what > 17) {
      throw new IndexOutOfBoundsException("what is not 0 to 17");
    }
    return countOf(what);
  }

  // ---- words and spellers

  public int root(int root, int what) throws IndexOutOfBoundsException {
    if (!told.has(ROOTS, root) || what < 0 || what > 4) {
      throw new IndexOutOfBoundsException("no such root, or what is not 0 to 4");
    }
    return rootFact(root, what);
  }

  public int word(int word, int what) throws IndexOutOfBoundsException {
    if (!told.has(WORDS, word) || what < 0 || what > 4) {
      throw new IndexOutOfBoundsException("no such word, or what is not 0 to 4");
    }
    return wordFact(word, what);
  }

  public int part(int word, int place) throws IndexOutOfBoundsException {
    if (!told.has(WORDS, word) || place < 0 || place >= get(told.wordSize, word)) {
      throw new IndexOutOfBoundsException("no such word or place");
    }
    return told.partAt(word, place);
  }

  public int speller(int speller, int what) throws IndexOutOfBoundsException {
    if (!told.has(SPELLERS, speller) || what < 0 || what > 8) {
      throw new IndexOutOfBoundsException("no such speller, or what is not 0 to 8");
    }
    return spellerFact(speller, what);
  }

  public int knows(int speller, int tongue) throws IndexOutOfBoundsException {
    if (!told.has(SPELLERS, speller) || !told.has(TONGUES, tongue)) {
      throw new IndexOutOfBoundsException("no such speller or tongue");
    }
    return get(bee.spellerAt(speller).knowledge, tongue);
  }

  public int heard(int speller, int root) throws IndexOutOfBoundsException {
    if (!told.has(SPELLERS, speller) || !told.has(ROOTS, root)) {
      throw new IndexOutOfBoundsException("no such speller or root");
    }
    return get(bee.spellerAt(speller).hearings, root);
  }

  public int strong(int speller, int word) throws IndexOutOfBoundsException {
    if (!told.has(SPELLERS, speller) || !told.has(WORDS, word)) {
      throw new IndexOutOfBoundsException("no such speller or word");
    }
    return bee.strength(speller, word);
  }

  // ---- by hand

  public int hint() throws IllegalStateException {
    if (!bee.can(DO_HINT)) {
      throw new IllegalStateException("nobody on turn can take a hint");
    }
    bee.takeHint();
    return bee.spellerAt(bee.onTurn).points;
  }

  public int skip() throws IllegalStateException {
    if (!bee.can(DO_PASS)) {
      throw new IllegalStateException("nobody on turn can pass the word on");
    }
    bee.usePass();
    bee.endTurn();
    return bee.onTurn;
  }

  public int learn(int speller, int tongue, int by)
      throws IndexOutOfBoundsException, IllegalArgumentException {
    if (!told.has(SPELLERS, speller) || !told.has(TONGUES, tongue)) {
      throw new IndexOutOfBoundsException("no such speller or tongue");
    }
    if (by < 1 || by > 9) {
      throw new IllegalArgumentException("by is not 1 to 9");
    }
    int[] knowledge = bee.spellerAt(speller).knowledge;
    put(knowledge, tongue, Math.min(MAX_KNOWLEDGE, get(knowledge, tongue) + by));
    return get(knowledge, tongue);
  }

  public int award(int speller, int points)
      throws IndexOutOfBoundsException, IllegalArgumentException {
    if (!told.has(SPELLERS, speller)) {
      throw new IndexOutOfBoundsException("no such speller");
    }
    if (points < 1 || points > 20) {
      throw new IllegalArgumentException("points is not 1 to 20");
    }
    Speller who = bee.spellerAt(speller);
    who.points += points;
    return who.points;
  }

  // ---- turns and what would be

  public int go(int turns) throws IllegalArgumentException {
    if (turns < 1 || turns > MAX_GO) {
      throw new IllegalArgumentException("turns is not 1 to 60");
    }
    return bee.play(turns);
  }

  public int foresee(int turns, int what)
      throws IllegalArgumentException, IndexOutOfBoundsException {
    if (turns < 1 || turns > MAX_GO) {
      throw new IllegalArgumentException("turns is not 1 to 60");
    }
    if (what < 10 || what > 16) {
      throw new IndexOutOfBoundsException("what is not 10 to 16");
    }
    ghost.copyFrom(bee);
    ghost.play(turns);
    return ghost.tally(what);
  }

  public int until(int speller) throws IndexOutOfBoundsException {
    if (!told.has(SPELLERS, speller)) {
      throw new IndexOutOfBoundsException("no such speller");
    }
    ghost.copyFrom(bee);
    int turns = 0;
    for (; turns < ALL_TURNS && ghost.spellerAt(speller).in && !ghost.isOver(); turns++) {
      ghost.play(1);
    }
    return ghost.spellerAt(speller).in ? -1 : turns;
  }

  public int winner() {
    ghost.copyFrom(bee);
    ghost.play(ALL_TURNS);
    for (int speller = 0; speller < told.countOf(SPELLERS); speller++) {
      if (ghost.rank(speller) == 0) {
        return speller;
      }
    }
    return -1;
  }

  public int advise() {
    if (bee.isOver()) {
      return -1;
    }
    int best = DO_NOTHING;
    int bestRank = MAX_SPELLERS;
    for (int choice = DO_NOTHING; choice <= DO_PASS; choice++) {
      if (bee.can(choice)) {
        ghost.copyFrom(bee);
        ghost.doByHand(choice);
        ghost.play(ALL_TURNS);
        int rank = ghost.rank(bee.onTurn);
        if (rank < bestRank) {
          best = choice;
          bestRank = rank;
        }
      }
    }
    return best;
  }

  public double mean() {
    int spellers = told.countOf(SPELLERS);
    int sum = 0;
    for (int speller = 0; speller < spellers; speller++) {
      sum += bee.spellerAt(speller).points;
    }
    return spellers == 0 ? 0.0 : (double) sum / (double) spellers;
  }

  public long digest() {
    long d = 919;
    for (int what = 0; what <= 17; what++) {
      d = d * 31 + countOf(what);
    }
    for (int root = 0; root < told.countOf(ROOTS); root++) {
      for (int what = 0; what <= 4; what++) {
        d = d * 31 + rootFact(root, what);
      }
    }
    for (int word = 0; word < told.countOf(WORDS); word++) {
      for (int what = 0; what <= 4; what++) {
        d = d * 31 + wordFact(word, what);
      }
    }
    for (int speller = 0; speller < told.countOf(SPELLERS); speller++) {
      d = digestOfSpeller(d, speller);
    }
    return d;
  }

  private long digestOfSpeller(long before, int speller) {
    long d = before;
    for (int what = 0; what <= 8; what++) {
      d = d * 31 + spellerFact(speller, what);
    }
    for (int tongue = 0; tongue < told.countOf(TONGUES); tongue++) {
      d = d * 31 + get(bee.spellerAt(speller).knowledge, tongue);
    }
    for (int root = 0; root < told.countOf(ROOTS); root++) {
      d = d * 31 + get(bee.spellerAt(speller).hearings, root);
    }
    return d;
  }

  private int countOf(int what) {
    switch (what) {
      case 0: return bee.turn;
      case 7: return bee.isOver() ? -1 : bee.round;
      case 8: return bee.onTurn;
      case 9: return bee.wordOnTurn();
      case 17: return tape.length;
      default: return what <= KINDS ? told.countOf(what - 1) : bee.tally(what);
    }
  }

  private int rootFact(int root, int what) {
    switch (what) {
      case 0: return get(told.rootTongue, root);
      case 1: return get(told.rootLetters, root);
      case 2: return get(told.rootHard, root);
      case 3: return get(told.ease, get(told.rootTongue, root));
      default: return told.wordsWith(root);
    }
  }

  private int wordFact(int word, int what) {
    switch (what) {
      case 0: return get(told.wordSize, word);
      case 1: return told.lettersOf(word);
      case 2: return told.hardOf(word);
      case 3: return get(bee.wordSpelled, word);
      default: return get(bee.wordRight, word);
    }
  }

  private int spellerFact(int speller, int what) {
    Speller who = bee.spellerAt(speller);
    switch (what) {
      case 0: return who.in ? 1 : 0;
      case 1: return who.points;
      case 2: return who.misses;
      case 3: return who.passes;
      case 4: return who.hasAppeal ? 1 : 0;
      case 5: return who.hints;
      case 6: return who.right;
      case 7: return who.wrong;
      default: return bee.rank(speller);
    }
  }

  // Rows are read and written through these three alone, so that no index is used unlooked at.

  private static int get(int[] row, int index) {
    return index >= 0 && index < row.length ? row[index] : 0;
  }

  private static void put(int[] row, int index, int value) {
    if (index >= 0 && index < row.length) {
      row[index] = value;
    }
  }

  private static void copy(int[] from, int[] to) {
    System.arraycopy(from, 0, to, 0, Math.min(from.length, to.length));
  }

  /** The bytes that were fed. */
  private static final class Tape {
    private final int[] bytes = new int[TAPE_BYTES];
    private int length;

    void append(int number) {
      for (int shift = 24; shift >= 0; shift -= 8) {
        put(bytes, length, (number >> shift) & 255);
        length++;
      }
    }

    /** The byte there, -1 behind the end. */
    int byteAt(int position) {
      return position >= 0 && position < length && position < bytes.length ? bytes[position] : -1;
    }

    boolean isLetter(int position) {
      int sign = byteAt(position);
      return sign >= 'a' && sign <= 'z';
    }

    boolean isDigit(int position) {
      int sign = byteAt(position);
      return sign >= '0' && sign <= '9';
    }

    boolean isBlank(int position) {
      int sign = byteAt(position);
      return sign == ' ' || sign == '\n';
    }
  }

  /** The tape's tokens up to its end, or to the first one that no list can have. */
  private static final class Tokens {
    private final Tape tape;
    private final int[] kinds = new int[MAX_TOKENS + 1];
    private final int[] starts = new int[MAX_TOKENS + 1];
    private final int[] lengths = new int[MAX_TOKENS + 1];
    private final int[] roles = new int[MAX_TOKENS + 1];
    // Of a number what it is, of a name the number of what it names.
    private final int[] values = new int[MAX_TOKENS + 1];
    private int size;

    Tokens(Tape tape) {
      this.tape = tape;
    }

    void split() {
      int position = 0;
      int kind = NAME;
      size = 0;
      for (int token = 0; token <= MAX_TOKENS && kind != END && kind != BAD; token++) {
        position = behindBlanks(position);
        int length = lengthAt(position);
        kind = kindAt(position, length);
        if (token == MAX_TOKENS && kind != END) {
          kind = BAD;
        }
        put(kinds, token, kind);
        put(starts, token, position);
        put(lengths, token, length);
        put(roles, token, NOTHING);
        put(values, token, kind == NUMBER ? numberAt(position, length) : 0);
        position += length;
        size = token + 1;
      }
    }

    private int behindBlanks(int from) {
      int position = from;
      for (int n = 0; n < TAPE_BYTES && tape.isBlank(position); n++) {
        position++;
      }
      return position;
    }

    private int lengthAt(int position) {
      boolean isWord = tape.isLetter(position);
      if (!isWord && !tape.isDigit(position)) {
        return isWideSymbol(position) ? 2 : 1;
      }
      int length = 1;
      for (int n = 0; n < TAPE_BYTES && goesOn(isWord, position + length); n++) {
        length++;
      }
      return length;
    }

    private boolean goesOn(boolean isWord, int position) {
      return tape.isDigit(position) || isWord && tape.isLetter(position);
    }

    private boolean isWideSymbol(int position) {
      int sign = tape.byteAt(position);
      return (sign == '<' || sign == '>') && tape.byteAt(position + 1) == '=';
    }

    private int kindAt(int position, int length) {
      int sign = tape.byteAt(position);
      if (sign < 0) {
        return END;
      }
      if (tape.isLetter(position)) {
        return length > MAX_WORD_BYTES ? BAD : wordKindAt(position, length);
      }
      if (tape.isDigit(position)) {
        return length > MAX_DIGITS ? BAD : NUMBER;
      }
      if (length == 2) {
        return sign == '<' ? AT_MOST : AT_LEAST;
      }
      return SYMBOLS.indexOf((char) sign) >= 0 ? sign : BAD;
    }

    private int wordKindAt(int position, int length) {
      for (int keyword = 0; keyword < KEYWORDS; keyword++) {
        if (isTextAt(keywordText(keyword), position, length)) {
          return keyword;
        }
      }
      return NAME;
    }

    private boolean isTextAt(String text, int position, int length) {
      if (text.length() != length) {
        return false;
      }
      for (int i = 0; i < text.length(); i++) {
        if (text.charAt(i) != tape.byteAt(position + i)) {
          return false;
        }
      }
      return true;
    }

    private static String keywordText(int keyword) {
      switch (keyword) {
        case TONGUE: return "tongue";
        case EASE: return "ease";
        case ROOT: return "root";
        case OF: return "of";
        case LETTERS: return "letters";
        case HARD: return "hard";
        case WORD: return "word";
        case FROM: return "from";
        case SPELLER: return "speller";
        case PASSES: return "passes";
        case KNOWS: return "knows";
        case ROUND: return "round";
        case TOLL: return "toll";
        case LAPS: return "laps";
        case WORDS_LISTED: return "words";
        case HINT: return "hint";
        case PASS: return "pass";
        case APPEAL: return "appeal";
        case WHEN: return "when";
        case TURN: return "turn";
        case LEFT: return "left";
        case POINTS: return "points";
        case MISSES: return "misses";
        case GAP: return "gap";
        case IN: return "in";
        case NEXT: return "next";
        case NOT: return "not";
        case AND: return "and";
        case OR: return "or";
        case MIN: return "min";
        case MAX: return "max";
        default: return "";
      }
    }

    private int numberAt(int position, int length) {
      int number = 0;
      for (int i = 0; i < length; i++) {
        number = number * 10 + (tape.byteAt(position + i) - '0');
      }
      return number;
    }

    boolean sameText(int token, int other) {
      int length = get(lengths, token);
      if (length != get(lengths, other)) {
        return false;
      }
      int start = get(starts, token);
      int otherStart = get(starts, other);
      for (int i = 0; i < length; i++) {
        if (tape.byteAt(start + i) != tape.byteAt(otherStart + i)) {
          return false;
        }
      }
      return true;
    }
  }

  /** The orders' tests, in the order in which they are reckoned, each ended by a semicolon. */
  private static final class Code {
    private final int[] operations = new int[MAX_TOKENS];
    // First the token of the number or name that the operation is about, then its value.
    private final int[] arguments = new int[MAX_TOKENS];
    private int size;

    void add(int operation, int argument) {
      put(operations, size, operation);
      put(arguments, size, argument);
      // No token makes more than one operation, so there is room for all.
      size = Math.min(size + 1, MAX_TOKENS);
    }

    void settle(Tokens tokens) {
      for (int i = 0; i < size; i++) {
        put(arguments, i, get(tokens.values, get(arguments, i)));
      }
    }

    void copyFrom(Code other) {
      copy(other.operations, operations);
      copy(other.arguments, arguments);
      size = other.size;
    }
  }

  /** Reads the tokens as the grammar has them; says of each what it is to be looked at for. */
  private static final class Grammar {
    private final Tokens tokens;
    private final Code code;
    private int here;
    private int kind;

    Grammar(Tokens tokens, Code code) {
      this.tokens = tokens;
      this.code = code;
    }

    /** The token of the error, -1 if there is none. */
    int read() {
      here = 0;
      kind = get(tokens.kinds, here);
      code.size = 0;
      for (int line = 0; line <= MAX_TOKENS && kind != END; line++) {
        if (!readLine() || !take(';', NOTHING)) {
          return here;
        }
      }
      return kind == END ? -1 : here;
    }

    private boolean take(int due, int role) {
      if (kind != due) {
        return false;
      }
      put(tokens.roles, here, role);
      here++;
      kind = get(tokens.kinds, here);
      return true;
    }

    private boolean readLine() {
      int first = kind;
      switch (first) {
        case TONGUE:
          return take(TONGUE, NOTHING) && take(NAME, NEW_TONGUE)
              && take(EASE, NOTHING) && take(NUMBER, EASE_NUMBER);
        case ROOT:
          return take(ROOT, NOTHING) && take(NAME, NEW_ROOT)
              && take(OF, NOTHING) && take(NAME, OF_TONGUE)
              && take(LETTERS, NOTHING) && take(NUMBER, LETTERS_NUMBER)
              && take(HARD, NOTHING) && take(NUMBER, HARD_NUMBER);
        case WORD:
          return take(WORD, NOTHING) && take(NAME, NEW_WORD)
              && take(FROM, NOTHING) && takeNames(PART_ROOT);
        case SPELLER:
          return take(SPELLER, NOTHING) && take(NAME, NEW_SPELLER)
              && take(PASSES, NOTHING) && take(NUMBER, PASSES_NUMBER) && takeKnowledge();
        case ROUND:
          return take(ROUND, NOTHING) && take(NAME, NEW_ROUND)
              && take(TOLL, NOTHING) && take(NUMBER, TOLL_NUMBER)
              && take(LAPS, NOTHING) && take(NUMBER, LAPS_NUMBER)
              && take(WORDS_LISTED, NOTHING) && takeNames(LISTED_WORD);
        case HINT:
        case PASS:
        case APPEAL:
          // The order finds its test by this, wherever in the list it stands.
          put(tokens.values, here, code.size);
          return take(first, NEW_ORDER) && take(NAME, ORDER_SPELLER)
              && take(WHEN, NOTHING) && readTest(0) && endTest();
        default: return false;
      }
    }

    private boolean takeNames(int role) {
      boolean taken = take(NAME, role);
      for (int n = 0; n < MAX_TOKENS && kind == NAME; n++) {
        take(NAME, role);
      }
      return taken;
    }

    private boolean takeKnowledge() {
      for (int n = 0; n < MAX_TOKENS && take(KNOWS, NOTHING); n++) {
        if (!take(NAME, KNOWN_TONGUE) || !take(NUMBER, KNOWS_NUMBER)) {
          return false;
        }
      }
      return true;
    }

    private boolean endTest() {
      code.add(';', here);
      return true;
    }

    private boolean readTest(int depth) {
      if (!readBoth(depth)) {
        return false;
      }
      for (int n = 0; n < MAX_TOKENS && take(OR, NOTHING); n++) {
        if (!readBoth(depth)) {
          return false;
        }
        code.add(OR, here);
      }
      return true;
    }

    private boolean readBoth(int depth) {
      if (!readSingle(depth)) {
        return false;
      }
      for (int n = 0; n < MAX_TOKENS && take(AND, NOTHING); n++) {
        if (!readSingle(depth)) {
          return false;
        }
        code.add(AND, here);
      }
      return true;
    }

    private boolean readSingle(int depth) {
      int first = kind;
      switch (first) {
        case NOT:
          if (depth >= MAX_DEPTH || !take(NOT, NOTHING) || !readSingle(depth + 1)) {
            return false;
          }
          code.add(NOT, here);
          return true;
        case '[':
          return depth < MAX_DEPTH && take('[', NOTHING) && readTest(depth + 1)
              && take(']', NOTHING);
        case IN:
        case NEXT:
          code.add(first, here + 1);
          return take(first, NOTHING) && take(NAME, TEST_SPELLER);
        default: return readComparison(depth);
      }
    }

    private boolean readComparison(int depth) {
      if (!readSum(depth)) {
        return false;
      }
      int comparison = kind;
      boolean compares = comparison == '<' || comparison == '>' || comparison == '='
          || comparison == AT_MOST || comparison == AT_LEAST;
      if (!compares || !take(comparison, NOTHING) || !readSum(depth)) {
        return false;
      }
      code.add(comparison, here);
      return true;
    }

    private boolean readSum(int depth) {
      if (!readProduct(depth)) {
        return false;
      }
      for (int n = 0; n < MAX_TOKENS && (kind == '+' || kind == '-'); n++) {
        int operation = kind;
        if (!take(operation, NOTHING) || !readProduct(depth)) {
          return false;
        }
        code.add(operation, here);
      }
      return true;
    }

    private boolean readProduct(int depth) {
      if (!readValue(depth)) {
        return false;
      }
      for (int n = 0; n < MAX_TOKENS && (kind == '*' || kind == '/'); n++) {
        int operation = kind;
        if (!take(operation, NOTHING) || !readValue(depth)) {
          return false;
        }
        code.add(operation, here);
      }
      return true;
    }

    private boolean readValue(int depth) {
      int first = kind;
      switch (first) {
        case NUMBER:
        case TURN:
        case LEFT:
          code.add(first, here);
          return take(first, NOTHING);
        case POINTS:
        case MISSES:
        case GAP:
        case PASSES:
          code.add(first, here + 1);
          return take(first, NOTHING) && take(NAME, TEST_SPELLER);
        case HARD:
          code.add(first, here + 1);
          return take(first, NOTHING) && take(NAME, TEST_WORD);
        case '-':
          if (depth >= MAX_DEPTH || !take('-', NOTHING) || !readValue(depth + 1)) {
            return false;
          }
          code.add(TURNED, here);
          return true;
        case '(':
          return depth < MAX_DEPTH && take('(', NOTHING) && readSum(depth + 1)
              && take(')', NOTHING);
        case MIN:
        case MAX:
          if (!take(first, NOTHING) || depth >= MAX_DEPTH || !take('(', NOTHING)
              || !readSum(depth + 1) || !take(',', NOTHING) || !readSum(depth + 1)) {
            return false;
          }
          code.add(first, here);
          return take(')', NOTHING);
        default: return false;
      }
    }
  }

  /** What a list tells. */
  private static final class Told {
    private final int[] counts = new int[KINDS];
    private final int[] ease = new int[MAX_TONGUES];
    private final int[] rootTongue = new int[MAX_ROOTS];
    private final int[] rootLetters = new int[MAX_ROOTS];
    private final int[] rootHard = new int[MAX_ROOTS];
    private final int[] wordSize = new int[MAX_WORDS];
    private final int[] wordRoots = new int[MAX_WORDS * MAX_PARTS];
    private final int[] wordHard = new int[MAX_WORDS];
    private final int[] passes = new int[MAX_SPELLERS];
    private final int[] knowledge = new int[MAX_SPELLERS * MAX_TONGUES];
    private final int[] toll = new int[MAX_ROUNDS];
    private final int[] laps = new int[MAX_ROUNDS];
    private final int[] roundSize = new int[MAX_ROUNDS];
    private final int[] roundWords = new int[MAX_ROUNDS * MAX_ROUND_WORDS];
    private final int[] orderKind = new int[MAX_ORDERS];
    private final int[] orderSpeller = new int[MAX_ORDERS];
    private final int[] orderTest = new int[MAX_ORDERS];
    private final Code code = new Code();

    int countOf(int kind) {
      return get(counts, kind);
    }

    boolean has(int kind, int number) {
      return number >= 0 && number < get(counts, kind);
    }

    int hardOf(int word) {
      return get(wordHard, word);
    }

    int partAt(int word, int place) {
      return get(wordRoots, word * MAX_PARTS + place);
    }

    int lettersOf(int word) {
      int letters = 0;
      for (int place = 0; place < get(wordSize, word); place++) {
        letters += get(rootLetters, partAt(word, place));
      }
      return letters;
    }

    int wordsWith(int root) {
      int words = 0;
      for (int word = 0; word < get(counts, WORDS); word++) {
        if (comesIn(root, word)) {
          words++;
        }
      }
      return words;
    }

    private boolean comesIn(int root, int word) {
      for (int place = 0; place < get(wordSize, word); place++) {
        if (partAt(word, place) == root) {
          return true;
        }
      }
      return false;
    }

    /** Empties what a new list adds to; all else is told whole before it is used. */
    void clear() {
      Arrays.fill(counts, 0);
      Arrays.fill(wordSize, 0);
      Arrays.fill(roundSize, 0);
      Arrays.fill(knowledge, 0);
    }

    void settle(Tokens tokens) {
      code.settle(tokens);
      for (int word = 0; word < get(counts, WORDS); word++) {
        int hard = lettersOf(word) / 4;
        for (int place = 0; place < get(wordSize, word); place++) {
          hard += get(rootHard, partAt(word, place));
        }
        put(wordHard, word, hard);
      }
    }

    void copyFrom(Told other) {
      copy(other.counts, counts);
      copy(other.ease, ease);
      copy(other.rootTongue, rootTongue);
      copy(other.rootLetters, rootLetters);
      copy(other.rootHard, rootHard);
      copy(other.wordSize, wordSize);
      copy(other.wordRoots, wordRoots);
      copy(other.wordHard, wordHard);
      copy(other.passes, passes);
      copy(other.knowledge, knowledge);
      copy(other.toll, toll);
      copy(other.laps, laps);
      copy(other.roundSize, roundSize);
      copy(other.roundWords, roundWords);
      copy(other.orderKind, orderKind);
      copy(other.orderSpeller, orderSpeller);
      copy(other.orderTest, orderTest);
      code.copyFrom(other.code);
    }
  }

  /** Looks at keywords, names and numbers of a list whose grammar holds, and writes it down. */
  private static final class Teller {
    private final Tokens tokens;
    private final Told told;
    private final int[] nameTokens = new int[KINDS * MAX_OF_A_KIND];
    private int knownTongue;
    private int errorToken;

    Teller(Tokens tokens, Told told) {
      this.tokens = tokens;
      this.told = told;
    }

    int read() {
      told.clear();
      for (int token = 0; token < tokens.size; token++) {
        int error = look(token);
        if (error != NO_ERROR) {
          errorToken = token;
          return error;
        }
      }
      told.settle(tokens);
      return NO_ERROR;
    }

    private int look(int token) {
      int role = get(tokens.roles, token);
      if (role >= EASE_NUMBER) {
        return lookAtNumber(token, role);
      }
      switch (role) {
        case NEW_TONGUE: return addNew(TONGUES, MAX_TONGUES, token);
        case NEW_ROOT: return addNew(ROOTS, MAX_ROOTS, token);
        case NEW_WORD: return addNew(WORDS, MAX_WORDS, token);
        case NEW_SPELLER: return addNew(SPELLERS, MAX_SPELLERS, token);
        case NEW_ROUND: return addNew(ROUNDS, MAX_ROUNDS, token);
        case NEW_ORDER: return addOrder(token);
        case OF_TONGUE: return name(TONGUES, token, told.rootTongue, last(ROOTS));
        case KNOWN_TONGUE:
          knownTongue = find(TONGUES, token);
          return knownTongue < 0 ? ERROR_UNKNOWN : NO_ERROR;
        case PART_ROOT:
          return addName(ROOTS, token, told.wordRoots, told.wordSize, last(WORDS), MAX_PARTS);
        case LISTED_WORD:
          return addName(WORDS, token, told.roundWords, told.roundSize, last(ROUNDS),
              MAX_ROUND_WORDS);
        case ORDER_SPELLER: return name(SPELLERS, token, told.orderSpeller, last(ORDERS));
        case TEST_SPELLER: return name(SPELLERS, token, tokens.values, token);
        case TEST_WORD: return name(WORDS, token, tokens.values, token);
        default: return NO_ERROR;
      }
    }

    private int lookAtNumber(int token, int role) {
      switch (role) {
        case EASE_NUMBER: return number(token, 0, 9, told.ease, last(TONGUES));
        case LETTERS_NUMBER: return number(token, 1, 9, told.rootLetters, last(ROOTS));
        case HARD_NUMBER: return number(token, 0, 9, told.rootHard, last(ROOTS));
        case PASSES_NUMBER: return number(token, 0, 3, told.passes, last(SPELLERS));
        case KNOWS_NUMBER:
          return number(token, 0, MAX_KNOWLEDGE, told.knowledge,
              last(SPELLERS) * MAX_TONGUES + knownTongue);
        case TOLL_NUMBER: return number(token, 0, 99, told.toll, last(ROUNDS));
        case LAPS_NUMBER: return number(token, 1, 9, told.laps, last(ROUNDS));
        default: return NO_ERROR;
      }
    }

    private int last(int kind) {
      return get(told.counts, kind) - 1;
    }

    private int find(int kind, int token) {
      for (int number = 0; number < get(told.counts, kind); number++) {
        if (tokens.sameText(token, get(nameTokens, kind * MAX_OF_A_KIND + number))) {
          return number;
        }
      }
      return -1;
    }

    private int addNew(int kind, int most, int token) {
      if (find(kind, token) >= 0) {
        return ERROR_TWICE;
      }
      int number = get(told.counts, kind);
      if (number >= most) {
        return ERROR_TOO_MANY;
      }
      put(nameTokens, kind * MAX_OF_A_KIND + number, token);
      put(told.counts, kind, number + 1);
      return NO_ERROR;
    }

    private int addOrder(int token) {
      int order = get(told.counts, ORDERS);
      if (order >= MAX_ORDERS) {
        return ERROR_TOO_MANY;
      }
      put(told.orderKind, order, get(tokens.kinds, token));
      put(told.orderTest, order, get(tokens.values, token));
      put(told.counts, ORDERS, order + 1);
      return NO_ERROR;
    }

    private int name(int kind, int token, int[] row, int index) {
      int found = find(kind, token);
      if (found < 0) {
        return ERROR_UNKNOWN;
      }
      put(row, index, found);
      return NO_ERROR;
    }

    private int addName(int kind, int token, int[] row, int[] sizes, int owner, int most) {
      int size = get(sizes, owner);
      int found = find(kind, token);
      if (found < 0) {
        return ERROR_UNKNOWN;
      }
      if (size >= most) {
        return ERROR_TOO_MANY;
      }
      put(row, owner * most + size, found);
      put(sizes, owner, size + 1);
      return NO_ERROR;
    }

    private int number(int token, int least, int most, int[] row, int index) {
      int value = get(tokens.values, token);
      if (value < least || value > most) {
        return ERROR_RANGE;
      }
      put(row, index, value);
      return NO_ERROR;
    }
  }

  /** How a speller stands. */
  private static final class Speller {
    private final int[] knowledge = new int[MAX_TONGUES];
    private final int[] hearings = new int[MAX_ROOTS];
    private boolean in;
    private boolean outInLap;
    private boolean hasAppeal;
    private int points;
    private int misses;
    private int passes;
    private int hints;
    private int right;
    private int wrong;

    void begin(Told told, int number) {
      in = told.has(SPELLERS, number);
      outInLap = false;
      hasAppeal = true;
      points = 0;
      misses = 0;
      passes = get(told.passes, number);
      hints = 0;
      right = 0;
      wrong = 0;
      Arrays.fill(hearings, 0);
      for (int tongue = 0; tongue < MAX_TONGUES; tongue++) {
        put(knowledge, tongue, get(told.knowledge, number * MAX_TONGUES + tongue));
      }
    }

    void copyFrom(Speller other) {
      in = other.in;
      outInLap = other.outInLap;
      hasAppeal = other.hasAppeal;
      points = other.points;
      misses = other.misses;
      passes = other.passes;
      hints = other.hints;
      right = other.right;
      wrong = other.wrong;
      copy(other.knowledge, knowledge);
      copy(other.hearings, hearings);
    }
  }

  /** How the bee stands, and how its turns go. */
  private static final class Bee {
    private final Told told;
    private final Reckoner reckoner = new Reckoner();
    private final Speller[] spellers = new Speller[MAX_SPELLERS];
    // Stands in for a speller that is not there, so that none is ever null.
    private final Speller nobody = new Speller();
    private final int[] totals = new int[TOTALS];
    private final int[] wordSpelled = new int[MAX_WORDS];
    private final int[] wordRight = new int[MAX_WORDS];
    private int turn;
    private int round;
    private int lap;
    private int place;
    // The speller on turn; -1 tells that the bee is over.
    private int onTurn = -1;
    private int hintsNow;
    private boolean rightInLap;

    Bee(Told told) {
      this.told = told;
      for (int i = 0; i < spellers.length; i++) {
        spellers[i] = new Speller();
      }
    }

    Speller spellerAt(int number) {
      if (number < 0 || number >= spellers.length) {
        return nobody;
      }
      Speller speller = spellers[number];
      return speller == null ? nobody : speller;
    }

    void begin() {
      turn = 0;
      round = 0;
      lap = 0;
      place = 0;
      hintsNow = 0;
      rightInLap = false;
      Arrays.fill(totals, 0);
      Arrays.fill(wordSpelled, 0);
      Arrays.fill(wordRight, 0);
      for (int speller = 0; speller < MAX_SPELLERS; speller++) {
        spellerAt(speller).begin(told, speller);
      }
      onTurn = left() < 2 || told.countOf(ROUNDS) == 0 ? -1 : nextIn(0);
    }

    void copyFrom(Bee other) {
      turn = other.turn;
      round = other.round;
      lap = other.lap;
      place = other.place;
      onTurn = other.onTurn;
      hintsNow = other.hintsNow;
      rightInLap = other.rightInLap;
      copy(other.totals, totals);
      copy(other.wordSpelled, wordSpelled);
      copy(other.wordRight, wordRight);
      for (int speller = 0; speller < MAX_SPELLERS; speller++) {
        spellerAt(speller).copyFrom(other.spellerAt(speller));
      }
    }

    boolean isOver() {
      return onTurn < 0;
    }

    int wordOnTurn() {
      return isOver() ? -1 : get(told.roundWords, round * MAX_ROUND_WORDS + place);
    }

    int left() {
      int left = 0;
      for (int speller = 0; speller < told.countOf(SPELLERS); speller++) {
        if (spellerAt(speller).in) {
          left++;
        }
      }
      return left;
    }

    private int nextIn(int from) {
      for (int speller = from; speller < told.countOf(SPELLERS); speller++) {
        if (spellerAt(speller).in) {
          return speller;
        }
      }
      return -1;
    }

    /** What count() and foresee() tell from 10 to 16. */
    int tally(int what) {
      return what < FIRST_TOTAL ? left() : get(totals, what - FIRST_TOTAL);
    }

    int rank(int speller) {
      int rank = 0;
      for (int other = 0; other < told.countOf(SPELLERS); other++) {
        if (isAhead(other, speller)) {
          rank++;
        }
      }
      return rank;
    }

    private boolean isAhead(int speller, int other) {
      Speller one = spellerAt(speller);
      Speller two = spellerAt(other);
      if (one.in != two.in) {
        return one.in;
      }
      return one.points != two.points ? one.points > two.points : speller < other;
    }

    int strength(int speller, int word) {
      Speller who = spellerAt(speller);
      int least = 0;
      for (int i = 0; i < get(told.wordSize, word); i++) {
        int root = told.partAt(word, i);
        int tongue = get(told.rootTongue, root);
        int heard = Math.min(MAX_HEARD_COUNTED, get(who.hearings, root));
        int strength = get(who.knowledge, tongue) + get(told.ease, tongue) + heard;
        least = i == 0 ? strength : Math.min(least, strength);
      }
      boolean isHers = speller == onTurn && word == wordOnTurn();
      return isHers ? least + HINT_STRENGTH * hintsNow : least;
    }

    boolean can(int choice) {
      if (isOver()) {
        return false;
      }
      Speller who = spellerAt(onTurn);
      switch (choice) {
        case DO_HINT: return hintsNow < MAX_HINTS && who.points >= 1;
        case DO_PASS: return who.passes >= 1;
        default: return true;
      }
    }

    void doByHand(int choice) {
      if (choice == DO_HINT) {
        takeHint();
      } else if (choice == DO_PASS) {
        usePass();
        endTurn();
      }
    }

    void takeHint() {
      Speller who = spellerAt(onTurn);
      who.points--;
      who.hints++;
      hintsNow++;
      add(HINTS);
    }

    void usePass() {
      spellerAt(onTurn).passes--;
      add(PASSED);
    }

    private void add(int total) {
      put(totals, total, get(totals, total) + 1);
    }

    /** Plays so many turns at most; says how many it were. */
    int play(int turns) {
      int played = 0;
      for (; played < turns && !isOver(); played++) {
        if (!passesOn()) {
          spellWord();
        }
        endTurn();
      }
      return played;
    }

    /** Goes through the orders of hint and pass; says if the word was passed on. */
    private boolean passesOn() {
      for (int order = 0; order < told.countOf(ORDERS); order++) {
        if (isOrder(order, HINT) && can(DO_HINT) && reckoner.holds(this, order)) {
          takeHint();
        }
        if (isOrder(order, PASS) && can(DO_PASS) && reckoner.holds(this, order)) {
          usePass();
          return true;
        }
      }
      return false;
    }

    private boolean isOrder(int order, int kind) {
      return get(told.orderSpeller, order) == onTurn && get(told.orderKind, order) == kind;
    }

    private void spellWord() {
      Speller who = spellerAt(onTurn);
      int word = wordOnTurn();
      int hard = told.hardOf(word);
      int gap = hard - strength(onTurn, word);
      boolean right = true;
      if (gap <= 0) {
        who.points += 1 + hard / 4;
        hear(who, word);
      } else if (who.hasAppeal && wantsAppeal()) {
        right = gap <= APPEAL_REACH;
        decideAppeal(who, right);
      } else {
        right = false;
      }
      writeDown(who, word, right);
      place = place + 1 < get(told.roundSize, round) ? place + 1 : 0;
    }

    private void hear(Speller who, int word) {
      for (int i = 0; i < get(told.wordSize, word); i++) {
        int root = told.partAt(word, i);
        put(who.hearings, root, get(who.hearings, root) + 1);
      }
    }

    private boolean wantsAppeal() {
      for (int order = 0; order < told.countOf(ORDERS); order++) {
        if (isOrder(order, APPEAL) && reckoner.holds(this, order)) {
          return true;
        }
      }
      return false;
    }

    private void decideAppeal(Speller who, boolean granted) {
      if (granted) {
        who.points++;
        add(GRANTED);
      } else {
        who.hasAppeal = false;
        add(LOST);
      }
    }

    private void writeDown(Speller who, int word, boolean right) {
      put(wordSpelled, word, get(wordSpelled, word) + 1);
      if (right) {
        put(wordRight, word, get(wordRight, word) + 1);
        who.right++;
        rightInLap = true;
        add(RIGHT);
        return;
      }
      add(WRONG);
      who.wrong++;
      who.misses++;
      if (who.misses >= MISSES_TO_GO) {
        who.in = false;
        who.outInLap = true;
      }
    }

    void endTurn() {
      turn++;
      hintsNow = 0;
      onTurn = nextIn(onTurn + 1);
      if (onTurn < 0) {
        endLap();
      }
    }

    private void endLap() {
      for (int speller = 0; speller < MAX_SPELLERS; speller++) {
        Speller who = spellerAt(speller);
        if (who.outInLap && !rightInLap) {
          who.in = true;
          who.misses = 1;
        }
        who.outInLap = false;
      }
      rightInLap = false;
      lap++;
      boolean goesOn = left() >= 2;
      if (goesOn && lap >= get(told.laps, round)) {
        goesOn = endRound();
      }
      onTurn = goesOn ? nextIn(0) : -1;
    }

    /** Takes the toll; says if there is a further round for two spellers or more. */
    private boolean endRound() {
      takeToll(get(told.toll, round));
      for (int speller = 0; speller < MAX_SPELLERS; speller++) {
        spellerAt(speller).misses = 0;
      }
      if (left() < 2 || round + 1 >= told.countOf(ROUNDS)) {
        return false;
      }
      round++;
      lap = 0;
      place = 0;
      return true;
    }

    private void takeToll(int toll) {
      boolean anyPays = false;
      for (int speller = 0; speller < MAX_SPELLERS; speller++) {
        Speller who = spellerAt(speller);
        anyPays = anyPays || who.in && who.points >= toll;
      }
      for (int speller = 0; speller < MAX_SPELLERS && anyPays; speller++) {
        Speller who = spellerAt(speller);
        who.in = who.in && who.points >= toll;
      }
    }
  }

  /** Reckons the tests of orders. */
  private static final class Reckoner {
    // At the greatest depth some 30 numbers wait for their second side.
    private final int[] stack = new int[64];
    private int size;

    boolean holds(Bee bee, int order) {
      Told told = bee.told;
      int word = bee.wordOnTurn();
      size = 0;
      for (int i = get(told.orderTest, order); i < told.code.size; i++) {
        int operation = get(told.code.operations, i);
        int argument = get(told.code.arguments, i);
        switch (operation) {
          case NUMBER: push(argument); break;
          case TURN: push(bee.turn); break;
          case LEFT: push(bee.left()); break;
          case POINTS: push(bee.spellerAt(argument).points); break;
          case MISSES: push(bee.spellerAt(argument).misses); break;
          case PASSES: push(bee.spellerAt(argument).passes); break;
          case GAP: push(word < 0 ? 0 : told.hardOf(word) - bee.strength(argument, word)); break;
          case HARD: push(told.hardOf(argument)); break;
          case IN: push(bee.spellerAt(argument).in ? 1 : 0); break;
          case NEXT: push(bee.onTurn == argument ? 1 : 0); break;
          case NOT: push(1 - pop()); break;
          case TURNED: push(-pop()); break;
          case ';': return pop() != 0;
          default:
            int right = pop();
            push(join(operation, pop(), right));
        }
      }
      return false;
    }

    private void push(int number) {
      put(stack, size, number);
      size++;
    }

    private int pop() {
      size--;
      return get(stack, size);
    }

    private static int join(int operation, int left, int right) {
      switch (operation) {
        case '+': return left + right;
        case '-': return left - right;
        case '*': return left * right;
        case '/': return right == 0 ? 0 : left / right;
        case MIN: return Math.min(left, right);
        case MAX: return Math.max(left, right);
        case '<': return left < right ? 1 : 0;
        case '>': return left > right ? 1 : 0;
        case '=': return left == right ? 1 : 0;
        case AT_MOST: return left <= right ? 1 : 0;
        case AT_LEAST: return left >= right ? 1 : 0;
        case AND: return left & right;
        default: return left | right;
      }
    }
  }
}
