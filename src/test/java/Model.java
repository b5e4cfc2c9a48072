import java.util.ArrayList;
import java.util.Arrays;
import java.util.HashMap;
import java.util.HashSet;
import java.util.LinkedHashSet;
import java.util.List;
import java.util.Map;
import java.util.Set;

/**
 * The document once more, written plainly and wastefully, to be held against the program: the
 * grammar is read by a general recogniser, tests are reckoned from their texts, and what would be is
 * played by a whole copy.
 */
final class Model {
  private static final Set<String> KEYWORDS = new HashSet<>(Arrays.asList(("tongue ease root of letters hard"
      + " word from speller passes knows round toll laps words hint pass appeal when turn left points misses"
      + " gap in next not and or min max").split(" ")));
  private static final Map<String, List<String[]>> RULES = rules();

  private static final class Token {
    String text;
    String kind;
    int start;
  }

  private static final class Word {
    List<Integer> roots = new ArrayList<>();
    int spelled;
    int right;
  }

  private static final class Person {
    boolean in = true;
    int points;
    int misses;
    int passes;
    boolean appeal = true;
    int hints;
    int right;
    int wrong;
    Map<Integer, Integer> knows = new HashMap<>();
    Map<Integer, Integer> heard = new HashMap<>();
  }

  private static final class Order {
    String kind;
    int owner;
    List<Token> test = new ArrayList<>();
  }

  private static final class Round {
    int toll;
    int laps;
    List<Integer> words = new ArrayList<>();
  }

  private static final class World {
    List<String> tongueNames = new ArrayList<>();
    List<String> rootNames = new ArrayList<>();
    List<String> wordNames = new ArrayList<>();
    List<String> personNames = new ArrayList<>();
    List<String> roundNames = new ArrayList<>();
    List<Integer> ease = new ArrayList<>();
    List<int[]> roots = new ArrayList<>();
    List<Word> words = new ArrayList<>();
    List<Person> people = new ArrayList<>();
    List<Round> rounds = new ArrayList<>();
    List<Order> orders = new ArrayList<>();
    boolean over = true;
    int turn;
    int round;
    int lap;
    int place;
    int now;
    int hintsNow;
    boolean anyRight;
    Set<Integer> outNow = new HashSet<>();
    int right;
    int wrong;
    int hints;
    int passed;
    int granted;
    int lost;

    World copy() {
      World w = new World();
      w.tongueNames = tongueNames;
      w.rootNames = rootNames;
      w.wordNames = wordNames;
      w.personNames = personNames;
      w.roundNames = roundNames;
      w.ease = ease;
      w.roots = roots;
      w.rounds = rounds;
      w.orders = orders;
      for (Word word : words) {
        Word x = new Word();
        x.roots = word.roots;
        x.spelled = word.spelled;
        x.right = word.right;
        w.words.add(x);
      }
      for (Person p : people) {
        Person x = new Person();
        x.in = p.in;
        x.points = p.points;
        x.misses = p.misses;
        x.passes = p.passes;
        x.appeal = p.appeal;
        x.hints = p.hints;
        x.right = p.right;
        x.wrong = p.wrong;
        x.knows.putAll(p.knows);
        x.heard.putAll(p.heard);
        w.people.add(x);
      }
      w.over = over;
      w.turn = turn;
      w.round = round;
      w.lap = lap;
      w.place = place;
      w.now = now;
      w.hintsNow = hintsNow;
      w.anyRight = anyRight;
      w.outNow.addAll(outNow);
      w.right = right;
      w.wrong = wrong;
      w.hints = hints;
      w.passed = passed;
      w.granted = granted;
      w.lost = lost;
      return w;
    }

    // ---- the bee

    int letters(int word) {
      return words.get(word).roots.stream().mapToInt(r -> roots.get(r)[1]).sum();
    }

    int hard(int word) {
      return words.get(word).roots.stream().mapToInt(r -> roots.get(r)[2]).sum() + letters(word) / 4;
    }

    int wordNow() {
      List<Integer> list = rounds.get(round).words;
      return list.get(place % list.size());
    }

    int strong(int person, int word) {
      Person p = people.get(person);
      int strong = words.get(word).roots.stream().mapToInt(r -> {
        int tongue = roots.get(r)[0];
        return p.knows.getOrDefault(tongue, 0) + ease.get(tongue) + Math.min(5, p.heard.getOrDefault(r, 0));
      }).min().getAsInt();
      return !over && person == now && word == wordNow() ? strong + 3 * hintsNow : strong;
    }

    int left() {
      return (int) people.stream().filter(p -> p.in).count();
    }

    int rank(int person) {
      List<Integer> order = new ArrayList<>();
      for (int i = 0; i < people.size(); i++) {
        order.add(i);
      }
      order.sort((a, b) -> {
        Person x = people.get(a);
        Person y = people.get(b);
        return x.in != y.in ? (x.in ? -1 : 1) : x.points != y.points ? y.points - x.points : a - b;
      });
      return order.indexOf(person);
    }

    void begin() {
      over = people.size() < 2 || rounds.isEmpty();
      now = 0;
    }

    boolean canHint() {
      return !over && hintsNow < 2 && people.get(now).points > 0;
    }

    boolean canPass() {
      return !over && people.get(now).passes > 0;
    }

    void hint() {
      people.get(now).points--;
      people.get(now).hints++;
      hintsNow++;
      hints++;
    }

    void pass() {
      people.get(now).passes--;
      passed++;
      endTurn();
    }

    int go(int turns) {
      int done = 0;
      while (done < turns && !over) {
        oneTurn();
        done++;
      }
      return done;
    }

    void oneTurn() {
      Person p = people.get(now);
      for (Order order : orders) {
        if (order.owner == now && !order.kind.equals("appeal") && new Reading(this, order.test).holds()) {
          if (order.kind.equals("hint") && canHint()) {
            hint();
          }
          if (order.kind.equals("pass") && canPass()) {
            pass();
            return;
          }
        }
      }
      int word = wordNow();
      boolean isRight = strong(now, word) >= hard(word);
      if (isRight) {
        p.points += 1 + hard(word) / 4;
        for (int r : words.get(word).roots) {
          p.heard.merge(r, 1, Integer::sum);
        }
      } else {
        for (Order order : orders) {
          if (order.owner == now && order.kind.equals("appeal") && p.appeal && new Reading(this, order.test).holds()) {
            if (hard(word) - strong(now, word) <= 2) {
              isRight = true;
              p.points++;
              granted++;
            } else {
              p.appeal = false;
              lost++;
            }
            break;
          }
        }
      }
      words.get(word).spelled++;
      if (isRight) {
        words.get(word).right++;
        p.right++;
        right++;
        anyRight = true;
      } else {
        p.wrong++;
        wrong++;
        p.misses++;
        if (p.misses == 2) {
          p.in = false;
          outNow.add(now);
        }
      }
      place++;
      endTurn();
    }

    void endTurn() {
      turn++;
      hintsNow = 0;
      for (int next = now + 1; next < people.size(); next++) {
        if (people.get(next).in) {
          now = next;
          return;
        }
      }
      if (!anyRight) {
        for (int person : outNow) {
          people.get(person).in = true;
          people.get(person).misses = 1;
        }
      }
      outNow.clear();
      anyRight = false;
      lap++;
      if (left() < 2) {
        over = true;
        return;
      }
      if (lap == rounds.get(round).laps) {
        int toll = rounds.get(round).toll;
        long poor = people.stream().filter(p -> p.in && p.points < toll).count();
        if (poor < left()) {
          people.stream().filter(p -> p.points < toll).forEach(p -> p.in = false);
        }
        people.forEach(p -> p.misses = 0);
        if (left() < 2 || round == rounds.size() - 1) {
          over = true;
          return;
        }
        round++;
        lap = 0;
        place = 0;
      }
      now = 0;
      while (!people.get(now).in) {
        now++;
      }
    }
  }

  /** Reckons a test from its tokens. */
  private static final class Reading {
    final World world;
    final List<Token> tokens;
    int at = 0;

    Reading(World world, List<Token> tokens) {
      this.world = world;
      this.tokens = tokens;
    }

    boolean holds() {
      return test();
    }

    String peek() {
      return at < tokens.size() ? tokens.get(at).text : "";
    }

    String take() {
      return tokens.get(at++).text;
    }

    boolean test() {
      boolean b = both();
      while (peek().equals("or")) {
        take();
        b = both() || b;
      }
      return b;
    }

    boolean both() {
      boolean b = single();
      while (peek().equals("and")) {
        take();
        b = single() && b;
      }
      return b;
    }

    boolean single() {
      switch (peek()) {
        case "not":
          take();
          return !single();
        case "[":
          take();
          boolean b = test();
          take();
          return b;
        case "in":
          take();
          return person().in;
        case "next":
          take();
          return !world.over && world.personNames.indexOf(take()) == world.now;
        default:
          int x = sum();
          String sign = take();
          int y = sum();
          return sign.contains("=") && x == y || sign.contains("<") && x < y || sign.contains(">") && x > y;
      }
    }

    Person person() {
      return world.people.get(world.personNames.indexOf(take()));
    }

    int sum() {
      long x = product();
      while (peek().equals("+") || peek().equals("-")) {
        x = take().equals("+") ? x + product() : x - product();
        x = (int) x;
      }
      return (int) x;
    }

    int product() {
      long x = value();
      while (peek().equals("*") || peek().equals("/")) {
        if (take().equals("*")) {
          x = (int) (x * value());
        } else {
          long y = value();
          x = y == 0 ? 0 : (int) (x / y);
        }
      }
      return (int) x;
    }

    int value() {
      String first = take();
      switch (first) {
        case "turn":
          return world.turn;
        case "left":
          return world.left();
        case "points":
          return person().points;
        case "misses":
          return person().misses;
        case "passes":
          return person().passes;
        case "gap":
          int who = world.personNames.indexOf(take());
          return world.over ? 0 : world.hard(world.wordNow()) - world.strong(who, world.wordNow());
        case "hard":
          return world.hard(world.wordNames.indexOf(take()));
        case "-":
          return (int) -(long) value();
        case "(":
          int in = sum();
          take();
          return in;
        case "min":
        case "max":
          take();
          int x = sum();
          take();
          int y = sum();
          take();
          return first.equals("min") ? Math.min(x, y) : Math.max(x, y);
        default:
          return Integer.parseInt(first);
      }
    }
  }

  // ---- the language

  /** The grammar, with the depth written into the names of what can be nested. */
  private static Map<String, List<String[]>> rules() {
    Map<String, List<String[]>> rules = new HashMap<>();
    String[] lines = {
      "list =", "list = LINE ; list",
      "LINE = tongue name ease number", "LINE = root name of name letters number hard number",
      "LINE = word name from name NAMES", "LINE = speller name passes number KNOWN",
      "LINE = round name toll number laps number words name NAMES",
      "LINE = hint name when TEST0", "LINE = pass name when TEST0", "LINE = appeal name when TEST0",
      "NAMES =", "NAMES = name NAMES", "KNOWN =", "KNOWN = knows name number KNOWN",
    };
    for (String line : lines) {
      add(rules, line);
    }
    for (int d = 0; d <= 8; d++) {
      String[] nested = {
        "TEST# = BOTH#", "TEST# = TEST# or BOTH#", "BOTH# = SINGLE#", "BOTH# = BOTH# and SINGLE#",
        "SINGLE# = in name", "SINGLE# = next name", "SINGLE# = SUM# CMP SUM#",
        "SUM# = PRODUCT#", "SUM# = SUM# + PRODUCT#", "SUM# = SUM# - PRODUCT#",
        "PRODUCT# = VALUE#", "PRODUCT# = PRODUCT# * VALUE#", "PRODUCT# = PRODUCT# / VALUE#",
        "VALUE# = number", "VALUE# = turn", "VALUE# = left", "VALUE# = points name", "VALUE# = misses name",
        "VALUE# = gap name", "VALUE# = passes name", "VALUE# = hard name",
      };
      String[] nesting = {
        "SINGLE# = not SINGLE+", "SINGLE# = [ TEST+ ]", "VALUE# = - VALUE+", "VALUE# = ( SUM+ )",
        "VALUE# = min ( SUM+ , SUM+ )", "VALUE# = max ( SUM+ , SUM+ )",
      };
      for (String line : nested) {
        add(rules, line.replace("#", "" + d));
      }
      for (String line : d < 8 ? nesting : new String[] {"VALUE# = min NEVER", "VALUE# = max NEVER"}) {
        add(rules, line.replace("#", "" + d).replaceAll("([A-Z])\\+", "$1" + (d + 1)));
      }
    }
    for (String sign : "< > = <= >=".split(" ")) {
      add(rules, "CMP = " + sign);
    }
    return rules;
  }

  private static void add(Map<String, List<String[]>> rules, String line) {
    int split = line.indexOf(" =");
    String right = line.substring(split + 2).trim();
    rules.computeIfAbsent(line.substring(0, split), k -> new ArrayList<>())
        .add(right.isEmpty() ? new String[0] : right.split(" "));
  }

  /** A rule that is being recognised: how far, and since which token. */
  private record Item(String left, String[] right, int dot, int since) {
    Item next() {
      return new Item(left, right, dot + 1, since);
    }
  }

  /** Earley's recogniser: the first token that no list can have there, or -1. */
  private static int firstBad(List<Token> tokens) {
    List<Set<Item>> sets = new ArrayList<>();
    Set<Item> set = new LinkedHashSet<>();
    for (String[] rule : RULES.get("list")) {
      set.add(new Item("list", rule, 0, 0));
    }
    for (int at = 0; ; at++) {
      sets.add(set);
      Set<Item> next = new LinkedHashSet<>();
      List<Item> work = new ArrayList<>(set);
      boolean whole = false;
      for (int i = 0; i < work.size(); i++) {
        Item item = work.get(i);
        if (item.dot == item.right.length) {
          whole = whole || item.left.equals("list") && item.since == 0;
          // A list's own end need not be told to lists before it, as none stands in another.
          for (Item waiting : new ArrayList<>(sets.get(item.since))) {
            if (waiting.dot < waiting.right.length && waiting.right[waiting.dot].equals(item.left)
                && set.add(waiting.next())) {
              work.add(waiting.next());
            }
          }
        } else if (RULES.containsKey(item.right[item.dot])) {
          String wanted = item.right[item.dot];
          for (String[] rule : RULES.get(wanted)) {
            Item begun = new Item(wanted, rule, 0, at);
            if (set.add(begun)) {
              work.add(begun);
            }
            // What can be nothing is behind it at once.
            if (rule.length == 0 && set.add(item.next())) {
              work.add(item.next());
            }
          }
        } else if (item.right[item.dot].equals(tokens.get(at).kind)) {
          next.add(item.next());
        }
      }
      if (tokens.get(at).kind.equals("end")) {
        return whole ? -1 : at;
      }
      if (next.isEmpty()) {
        return at;
      }
      set = next;
    }
  }

  private static List<Token> split(String tape) {
    List<Token> tokens = new ArrayList<>();
    int at = 0;
    while (true) {
      while (at < tape.length() && " \n".indexOf(tape.charAt(at)) >= 0) {
        at++;
      }
      Token token = new Token();
      token.start = at;
      int end = at;
      if (at == tape.length()) {
        token.kind = "end";
      } else if (tape.substring(at, at + 1).matches("[a-z]")) {
        while (end < tape.length() && tape.substring(end, end + 1).matches("[a-z0-9]")) {
          end++;
        }
        String text = tape.substring(at, end);
        token.kind = text.length() > 10 ? "bad" : KEYWORDS.contains(text) ? text : "name";
      } else if (tape.substring(at, at + 1).matches("[0-9]")) {
        while (end < tape.length() && tape.substring(end, end + 1).matches("[0-9]")) {
          end++;
        }
        token.kind = end - at > 6 ? "bad" : "number";
      } else if (tape.startsWith("<=", at) || tape.startsWith(">=", at)) {
        end = at + 2;
        token.kind = tape.substring(at, end);
      } else {
        end = at + 1;
        String text = tape.substring(at, end);
        token.kind = "()[];,+-*/<>=".contains(text) ? text : "bad";
      }
      token.text = tape.substring(at, end);
      if (tokens.size() == 400 && !token.kind.equals("end")) {
        token.kind = "bad";
      }
      tokens.add(token);
      at = end;
      if (token.kind.equals("end") || token.kind.equals("bad")) {
        return tokens;
      }
    }
  }

  /** An error of the second kind: its number and place. */
  private static final class Wrong extends Exception {
    final int number;
    final int place;

    Wrong(int number, Token token) {
      this.number = number;
      this.place = token.start;
    }
  }

  private static int told(List<String> names, Token token) throws Wrong {
    if (!names.contains(token.text)) {
      throw new Wrong(3, token);
    }
    return names.indexOf(token.text);
  }

  private static void tell(List<String> names, Token token, int most) throws Wrong {
    if (names.contains(token.text)) {
      throw new Wrong(2, token);
    }
    if (names.size() == most) {
      throw new Wrong(4, token);
    }
    names.add(token.text);
  }

  private static int range(Token token, int least, int most) throws Wrong {
    int number = Integer.parseInt(token.text);
    if (number < least || number > most) {
      throw new Wrong(5, token);
    }
    return number;
  }

  private static World read(List<Token> tokens) throws Wrong {
    World world = new World();
    int at = 0;
    while (!tokens.get(at).kind.equals("end")) {
      List<Token> line = new ArrayList<>();
      while (!tokens.get(at).kind.equals(";")) {
        line.add(tokens.get(at++));
      }
      at++;
      readLine(world, line);
    }
    world.begin();
    return world;
  }

  private static void readLine(World world, List<Token> line) throws Wrong {
    Token name = line.get(1);
    switch (line.get(0).text) {
      case "tongue":
        tell(world.tongueNames, name, 5);
        world.ease.add(range(line.get(3), 0, 9));
        break;
      case "root":
        tell(world.rootNames, name, 10);
        int tongue = told(world.tongueNames, line.get(3));
        int letters = range(line.get(5), 1, 9);
        world.roots.add(new int[] {tongue, letters, range(line.get(7), 0, 9)});
        break;
      case "word":
        tell(world.wordNames, name, 12);
        world.words.add(new Word());
        addNames(world.words.get(world.words.size() - 1).roots, world.rootNames, line, 3, 4);
        break;
      case "speller":
        tell(world.personNames, name, 6);
        Person person = new Person();
        person.passes = range(line.get(3), 0, 3);
        for (int i = 4; i < line.size(); i += 3) {
          int known = told(world.tongueNames, line.get(i + 1));
          person.knows.put(known, range(line.get(i + 2), 0, 20));
        }
        world.people.add(person);
        break;
      case "round":
        tell(world.roundNames, name, 5);
        Round round = new Round();
        round.toll = range(line.get(3), 0, 99);
        round.laps = range(line.get(5), 1, 9);
        addNames(round.words, world.wordNames, line, 7, 8);
        world.rounds.add(round);
        break;
      default:
        readOrder(world, line);
    }
  }

  private static void addNames(List<Integer> list, List<String> names, List<Token> line, int from, int most)
      throws Wrong {
    for (Token token : line.subList(from, line.size())) {
      int number = told(names, token);
      if (list.size() == most) {
        throw new Wrong(4, token);
      }
      list.add(number);
    }
  }

  private static void readOrder(World world, List<Token> line) throws Wrong {
    if (world.orders.size() == 20) {
      throw new Wrong(4, line.get(0));
    }
    Order order = new Order();
    order.kind = line.get(0).text;
    order.owner = told(world.personNames, line.get(1));
    order.test.addAll(line.subList(3, line.size()));
    for (int i = 3; i < line.size(); i++) {
      if (line.get(i).kind.equals("name")) {
        told(line.get(i - 1).text.equals("hard") ? world.wordNames : world.personNames, line.get(i));
      }
    }
    world.orders.add(order);
  }

  // ---- the face

  private final StringBuilder tape = new StringBuilder();
  private World world = new World();
  private int errorAt = -1;

  int feed(int... numbers) {
    if (tape.length() + 20 > 2000) {
      throw new IllegalStateException();
    }
    for (int number : numbers) {
      for (int i = 3; i >= 0; i--) {
        tape.append((char) (number >>> 8 * i & 255));
      }
    }
    return tape.length();
  }

  int trim(int n) {
    if (n < 0 || n > tape.length()) {
      throw new IllegalArgumentException();
    }
    tape.setLength(n);
    return n;
  }

  int teach() {
    List<Token> tokens = split(tape.toString());
    tape.setLength(0);
    int bad = firstBad(tokens);
    if (bad >= 0) {
      errorAt = tokens.get(bad).start;
      return 1;
    }
    try {
      world = read(tokens);
      errorAt = -1;
      return 0;
    } catch (Wrong e) {
      errorAt = e.place;
      return e.number;
    }
  }

  int errorAt() {
    return errorAt;
  }

  private static void need(boolean holds) {
    if (!holds) {
      throw new IndexOutOfBoundsException();
    }
  }

  private static void allow(boolean holds) {
    if (!holds) {
      throw new IllegalArgumentException();
    }
  }

  private static boolean in(int x, int size) {
    return 0 <= x && x < size;
  }

  private int count(World w, int what) {
    int[] all = {
      w.turn, w.tongueNames.size(), w.roots.size(), w.words.size(), w.people.size(), w.rounds.size(),
      w.orders.size(), w.over ? -1 : w.round, w.over ? -1 : w.now, w.over ? -1 : w.wordNow(), w.left(),
      w.right, w.wrong, w.hints, w.passed, w.granted, w.lost, tape.length(),
    };
    return all[what];
  }

  int count(int what) {
    need(in(what, 18));
    return count(world, what);
  }

  int root(int root, int what) {
    need(in(root, world.roots.size()) && in(what, 5));
    int[] all = world.roots.get(root);
    int words = (int) world.words.stream().filter(w -> w.roots.contains(root)).count();
    return what < 3 ? all[what] : what == 3 ? world.ease.get(all[0]) : words;
  }

  int word(int word, int what) {
    need(in(word, world.words.size()) && in(what, 5));
    Word w = world.words.get(word);
    return new int[] {w.roots.size(), world.letters(word), world.hard(word), w.spelled, w.right}[what];
  }

  int part(int word, int place) {
    need(in(word, world.words.size()) && in(place, world.words.get(word).roots.size()));
    return world.words.get(word).roots.get(place);
  }

  int speller(int speller, int what) {
    need(in(speller, world.people.size()) && in(what, 9));
    Person p = world.people.get(speller);
    return new int[] {p.in ? 1 : 0, p.points, p.misses, p.passes, p.appeal ? 1 : 0, p.hints, p.right, p.wrong,
      world.rank(speller)}[what];
  }

  int knows(int speller, int tongue) {
    need(in(speller, world.people.size()) && in(tongue, world.ease.size()));
    return world.people.get(speller).knows.getOrDefault(tongue, 0);
  }

  int heard(int speller, int root) {
    need(in(speller, world.people.size()) && in(root, world.roots.size()));
    return world.people.get(speller).heard.getOrDefault(root, 0);
  }

  int strong(int speller, int word) {
    need(in(speller, world.people.size()) && in(word, world.words.size()));
    return world.strong(speller, word);
  }

  int hint() {
    if (!world.canHint()) {
      throw new IllegalStateException();
    }
    world.hint();
    return world.people.get(world.now).points;
  }

  int skip() {
    if (!world.canPass()) {
      throw new IllegalStateException();
    }
    world.pass();
    return count(8);
  }

  int learn(int speller, int tongue, int by) {
    knows(speller, tongue);
    allow(by >= 1 && by <= 9);
    world.people.get(speller).knows.put(tongue, Math.min(20, knows(speller, tongue) + by));
    return knows(speller, tongue);
  }

  int award(int speller, int points) {
    speller(speller, 0);
    allow(points >= 1 && points <= 20);
    return world.people.get(speller).points += points;
  }

  int go(int turns) {
    allow(turns >= 1 && turns <= 60);
    return world.go(turns);
  }

  int foresee(int turns, int what) {
    allow(turns >= 1 && turns <= 60);
    need(what >= 10 && what <= 16);
    World then = world.copy();
    then.go(turns);
    return count(then, what);
  }

  int until(int speller) {
    speller(speller, 0);
    World then = world.copy();
    for (int turns = 0; ; turns++) {
      if (!then.people.get(speller).in) {
        return turns;
      }
      if (then.over) {
        return -1;
      }
      then.oneTurn();
    }
  }

  private static int first(World w) {
    for (int i = 0; i < w.people.size(); i++) {
      if (w.rank(i) == 0) {
        return i;
      }
    }
    return -1;
  }

  int winner() {
    World then = world.copy();
    then.go(1000000);
    return first(then);
  }

  int advise() {
    if (world.over) {
      return -1;
    }
    int[] ranks = {99, 99, 99};
    for (int choice = 0; choice < 3; choice++) {
      World then = world.copy();
      if (choice == 1 && then.canHint()) {
        then.hint();
      } else if (choice == 2 && then.canPass()) {
        then.pass();
      } else if (choice != 0) {
        continue;
      }
      then.go(1000000);
      ranks[choice] = then.rank(world.now);
    }
    return ranks[0] <= ranks[1] && ranks[0] <= ranks[2] ? 0 : ranks[1] <= ranks[2] ? 1 : 2;
  }

  double mean() {
    return world.people.stream().mapToInt(p -> p.points).average().orElse(0);
  }

  long digest() {
    List<Integer> all = new ArrayList<>();
    for (int what = 0; what < 18; what++) {
      all.add(count(what));
    }
    for (int r = 0; r < world.roots.size(); r++) {
      for (int what = 0; what < 5; what++) {
        all.add(root(r, what));
      }
    }
    for (int w = 0; w < world.words.size(); w++) {
      for (int what = 0; what < 5; what++) {
        all.add(word(w, what));
      }
    }
    for (int s = 0; s < world.people.size(); s++) {
      for (int what = 0; what < 9; what++) {
        all.add(speller(s, what));
      }
      for (int t = 0; t < world.ease.size(); t++) {
        all.add(knows(s, t));
      }
      for (int r = 0; r < world.roots.size(); r++) {
        all.add(heard(s, r));
      }
    }
    long d = 919;
    for (int x : all) {
      d = d * 31 + x;
    }
    return d;
  }
}
