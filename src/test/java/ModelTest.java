import java.nio.charset.StandardCharsets;
import java.util.ArrayList;
import java.util.List;
import java.util.function.Supplier;

/** Many runs of calls, made by a fixed row of numbers, answered by the program and by the model. */
public final class ModelTest {
  private static final Check CHECK = new Check("ModelTest");
  private static final int[] EDGES = {-1, 0, 1, 9, 10, 20, 21, 60, 61, Integer.MIN_VALUE, Integer.MAX_VALUE, 1 << 29};

  private long seed;
  private int tongues;
  private int roots;
  private int words;
  private int spellers;
  private final int[] seen = new int[8];
  private final int[] errors = new int[6];
  private final int[] advice = new int[4];
  private int until;
  private int backIn;

  public static void main(String[] args) {
    ModelTest test = new ModelTest();
    int runs = args.length > 0 ? Integer.parseInt(args[0]) : 1500;
    long from = args.length > 1 ? Long.parseLong(args[1]) : 0;
    for (long run = from; run < from + runs && CHECK.wrong() < 20; run++) {
      test.seed = run * 2654435761L + 12345;
      test.lists(run);
      test.play(run);
    }
    if (runs >= 1500) {
      test.lookAtReach();
    }
    CHECK.end();
  }

  /** Random runs are worth only what they come to. */
  private void lookAtReach() {
    for (int what = 11; what <= 16; what++) {
      CHECK.same("count(" + what + ") was ever above 0", seen[what - 11] > 100 ? 1 : 0, 1);
    }
    for (int error = 0; error <= 5; error++) {
      CHECK.same("the error " + error + " was there", errors[error] > 20 ? 1 : 0, 1);
    }
    for (int choice = -1; choice <= 2; choice++) {
      CHECK.same("advise() told " + choice, advice[choice + 1] > 20 ? 1 : 0, 1);
    }
    CHECK.same("until() told a turn to come", until > 100 ? 1 : 0, 1);
    CHECK.same("somebody came in again", backIn > 20 ? 1 : 0, 1);
  }

  private int below(int bound) {
    seed = seed * 6364136223846793005L + 1442695040888963407L;
    return (int) ((seed >>> 33) % bound);
  }

  private boolean oneIn(int n) {
    return below(n) == 0;
  }

  private String pick(String... texts) {
    return texts[below(texts.length)];
  }

  // ---- lists

  private String list() {
    StringBuilder text = new StringBuilder();
    tongues = 1 + below(3);
    roots = 1 + below(4);
    words = 1 + below(4);
    spellers = oneIn(12) ? below(2) : 2 + below(4);
    int ease = below(3);
    for (int i = 0; i < tongues; i++) {
      text.append("tongue t").append(i).append(" ease ").append(below(ease + 1)).append(";");
    }
    for (int i = 0; i < roots; i++) {
      text.append("root r").append(i).append(" of t").append(below(tongues)).append(" letters ")
          .append(1 + below(9)).append(" hard ").append(below(6)).append(";\n");
    }
    for (int i = 0; i < words; i++) {
      text.append("word w").append(i).append(" from");
      for (int n = oneIn(3) ? 1 + below(4) : 1 + below(2); n > 0; n--) {
        text.append(" r").append(below(roots));
      }
      text.append(";");
    }
    // Near to how hard the words are, so that all may come out this way or that.
    int level = 3 + below(6);
    for (int i = 0; i < spellers; i++) {
      text.append("speller s").append(i).append(" passes ").append(oneIn(2) ? 0 : below(4));
      for (int t = 0; t < tongues; t++) {
        if (!oneIn(8)) {
          text.append(" knows t").append(t).append(' ').append(Math.max(0, level - 4 + below(8)));
        }
      }
      text.append(";");
    }
    for (int i = oneIn(20) ? 0 : 1 + below(3); i > 0; i--) {
      text.append("round o").append(i).append(" toll ").append(oneIn(3) ? below(12) : below(3)).append(" laps ")
          .append(1 + below(oneIn(4) ? 9 : 4)).append(" words");
      for (int n = 1 + below(5); n > 0; n--) {
        text.append(" w").append(below(words));
      }
      text.append(";");
    }
    for (int i = spellers == 0 ? 0 : below(7); i > 0; i--) {
      text.append(pick("hint", "pass", "appeal")).append(" s").append(below(spellers)).append(" when ")
          .append(test(2)).append(";");
    }
    for (int i = 0; i < spellers; i++) {
      if (oneIn(3)) {
        text.append("appeal s").append(i).append(" when gap s").append(i).append(pick("<=2;", "<3;", ">=0;", "=1;"));
      }
    }
    return text.toString();
  }

  private String speller() {
    return "s" + below(spellers);
  }

  private String test(int depth) {
    switch (depth == 0 ? below(4) : below(8)) {
      case 0: return pick("in ", "next ") + speller();
      case 1: return "gap " + speller() + pick(" <= ", " >= ", "=", "<", ">") + below(6);
      case 4: return "not " + test(depth - 1);
      case 5: return "[" + test(depth - 1) + "]";
      case 6: return test(depth - 1) + pick(" and ", " or ") + test(depth - 1);
      default: return sum(depth) + pick("<", ">", "=", "<=", ">=") + sum(depth);
    }
  }

  private String sum(int depth) {
    switch (depth == 0 ? below(6) : below(12)) {
      case 0: return "" + below(oneIn(5) ? 999999 : 9);
      case 1: return pick("turn", "left");
      case 2: return "points " + speller();
      case 3: return pick("misses ", "passes ") + speller();
      case 4: return "gap " + speller();
      case 5: return "hard w" + below(words);
      case 6: return "-" + sum(depth - 1);
      case 7: return "(" + sum(depth - 1) + ")";
      case 8: return pick("min(", "max(") + sum(depth - 1) + "," + sum(depth - 1) + ")";
      case 9: return "32768 * 65536 / " + sum(depth - 1);
      default: return sum(depth - 1) + pick("+", " - ", "*", "/") + sum(depth - 1);
    }
  }

  /** Takes tokens out, doubles them, puts others in, or spoils a byte. */
  private String spoil(String list) {
    List<String> tokens = new ArrayList<>(List.of(list.split("(?<=[ \n;,()\\[\\]<>=+*/-])|(?=[;,()\\[\\]<>=+*/-])")));
    for (int n = 1 + below(2); n > 0; n--) {
      int at = below(tokens.size());
      switch (below(6)) {
        case 0: tokens.remove(at); break;
        case 1: tokens.add(at, tokens.get(below(tokens.size()))); break;
        case 2: tokens.set(at, tokens.get(below(tokens.size()))); break;
        case 3:
          tokens.add(at, " " + pick("not", "[", "(", "-", "min(", "in", "when", "hard", "words", "t9", "s9", "0", "21",
              "100", "abcdefghijk", "1234567", "A", "\t", "\u00ff", ";", "passes", "]", ")", "next s0", "or") + " ");
          break;
        case 4: tokens.set(at, "" + below(30)); break;
        default: tokens.set(at, pick("t0 ", "r0 ", "w0 ", "s0 ", "s1 ", "o1 ")); break;
      }
      if (tokens.isEmpty()) {
        return "";
      }
    }
    String text = String.join("", tokens);
    return oneIn(6) ? text.substring(0, below(text.length() + 1)) : text;
  }

  /** Tells lines again, with other names or numbers: the grammar holds, what is told may not. */
  private String crowd(String list) {
    List<String> lines = new ArrayList<>(List.of(list.split("(?<=;)")));
    for (int n = 1 + below(6); n > 0; n--) {
      String line = lines.get(below(lines.size()));
      int times = oneIn(3) ? 12 : 1 + below(3);
      for (int i = 0; i < times && lines.size() < 48; i++) {
        String name = oneIn(8) ? "" : pick("x", "y", "z") + lines.size();
        String told = oneIn(4) ? line : line.replaceFirst("^(\\s*(?:tongue|root|word|speller|round) )\\w+", "$1n" + name);
        String grown = oneIn(4) ? told.replaceFirst("( [rw][0-9]+)+;", "$0$1$1$1$1").replaceFirst(";(.*)$", "$1;") : told;
        String spread = oneIn(5) ? grown.replaceFirst(" [0-9]+", " " + below(oneIn(2) ? 25 : 120)) : grown;
        lines.add(oneIn(8) ? below(lines.size() + 1) : lines.size(), spread);
      }
    }
    return String.join("", lines);
  }

  /** A list with an order whose test is as deep as it may be, or deeper. */
  private String deep() {
    StringBuilder text = new StringBuilder("speller s0 passes 0;hint s0 when ");
    int levels = 6 + below(4);
    int tests = below(levels + 1);
    StringBuilder behind = new StringBuilder();
    for (int n = 0; n < levels; n++) {
      String open = n < tests ? pick("not ", "[") : pick("-", "(", "min(1,", "max(");
      text.append(open);
      behind.insert(0, open.equals("[") ? "]" : open.equals("max(") ? ",2)" : open.contains("(") ? ")" : "");
    }
    String tail = behind.toString();
    int split = 0;
    while (split < tail.length() && tail.charAt(split) != ']') {
      split++;
    }
    return text + "1" + tail.substring(0, split) + "=1" + tail.substring(split) + ";";
  }

  /** A list of about four hundred tokens. */
  private String long400() {
    StringBuilder text = new StringBuilder("speller s0 passes 0;hint s0 when 1=1");
    for (int n = 193 + below(4); n > 0; n--) {
      text.append(pick("+", "-", "*", "/")).append(below(9));
    }
    return text + pick("", ";", ";;", "+", " x;", "-1;", "\n;\n");
  }

  private void lists(long run) {
    BeeTurnpike bee = new BeeTurnpike();
    Model model = new Model();
    for (int n = 0; n < 4; n++) {
      String text = list();
      text = n == 0 ? text : n == 1 ? spoil(text) : n == 2 ? crowd(text) : oneIn(9) ? long400() : deep();
      teach(run, bee, model, text);
      same(run, "digest behind " + text, () -> bee.digest(), () -> model.digest());
    }
  }

  private void teach(long run, BeeTurnpike bee, Model model, String text) {
    byte[] bytes = text.getBytes(StandardCharsets.ISO_8859_1);
    if (bytes.length > 1980) {
      return;
    }
    Check.feed(bee, bytes);
    model.trim(0);
    for (int i = 0; i < bytes.length; i += 20) {
      int[] five = new int[5];
      for (int j = 0; j < 20; j++) {
        five[j / 4] |= (i + j < bytes.length ? bytes[i + j] & 255 : 0) << 24 - 8 * (j % 4);
      }
      model.feed(five);
    }
    model.trim(bytes.length);
    int error = model.teach();
    errors[error]++;
    CHECK.same("run " + run + ": teach() of " + text, bee.teach(), error);
    CHECK.same("run " + run + ": errorAt() of " + text, bee.errorAt(), model.errorAt());
  }

  // ---- calls

  private static String answer(Supplier<Object> call) {
    try {
      return String.valueOf(call.get());
    } catch (IllegalStateException | IllegalArgumentException e) {
      return e.getClass().getName();
    } catch (IndexOutOfBoundsException e) {
      // The machine's own are kinds of this one.
      return e.getClass().getName();
    }
  }

  private static String same(long run, String call, Supplier<Object> got, Supplier<Object> due) {
    String answer = answer(got);
    String other = answer(due);
    CHECK.same("run " + run + ": " + call + " answered " + answer + ", due " + other, answer.equals(other) ? 1 : 0, 1);
    return answer;
  }

  private int some(int size) {
    return oneIn(15) ? EDGES[below(EDGES.length)] : below(size + 1) - (oneIn(20) ? 1 : 0);
  }

  private void play(long run) {
    BeeTurnpike bee = new BeeTurnpike();
    Model model = new Model();
    String text = list();
    teach(run, bee, model, text);
    for (int n = 0; n < 40 && CHECK.wrong() < 20; n++) {
      int out = out(model);
      call(run, n, bee, model);
      same(run, "digest, " + n + ", " + text, () -> bee.digest(), () -> model.digest());
      for (int s = 0; s < spellers && n % 4 == 0; s++) {
        for (int w = 0; w < words; w++) {
          int speller = s;
          int word = w;
          same(run, "strong(" + s + ", " + w + ")", () -> bee.strong(speller, word), () -> model.strong(speller, word));
        }
      }
      backIn += out(model) < out ? 1 : 0;
      if (oneIn(60)) {
        text = oneIn(2) ? spoil(list()) : list();
        teach(run, bee, model, text);
        spellers = model.count(4);
        words = model.count(3);
      }
    }
    for (int what = 11; what <= 16; what++) {
      seen[what - 11] += model.count(what) > 0 ? 1 : 0;
    }
  }

  private int out(Model model) {
    int out = 0;
    for (int s = 0; s < model.count(4); s++) {
      out += 1 - model.speller(s, 0);
    }
    return out;
  }

  private void call(long run, int n, BeeTurnpike bee, Model model) {
    int a = some(spellers);
    int b = some(words);
    int c = some(9);
    String at = ", the call " + n;
    switch (below(22)) {
      case 0: same(run, "hint()" + at, () -> bee.hint(), () -> model.hint()); break;
      case 1: same(run, "skip()" + at, () -> bee.skip(), () -> model.skip()); break;
      case 2: {
        int t = some(tongues);
        same(run, "learn(" + a + ", " + t + ", " + c + ")" + at, () -> bee.learn(a, t, c), () -> model.learn(a, t, c));
        break;
      }
      case 3:
        same(run, "award(" + a + ", " + c + ")" + at, () -> bee.award(a, c), () -> model.award(a, c));
        break;
      case 4: {
        int turns = some(60);
        int what = oneIn(9) ? some(18) : 10 + below(7);
        same(run, "foresee(" + turns + ", " + what + ")" + at,
            () -> bee.foresee(turns, what), () -> model.foresee(turns, what));
        break;
      }
      case 5: case 6: {
        String turns = same(run, "until(" + a + ")" + at, () -> bee.until(a), () -> model.until(a));
        until += turns.matches("[1-9][0-9]*") ? 1 : 0;
        break;
      }
      case 7: same(run, "winner()" + at, () -> bee.winner(), () -> model.winner()); break;
      case 8: case 9: case 10: {
        String choice = same(run, "advise()" + at, () -> bee.advise(), () -> model.advise());
        advice[Integer.parseInt(choice) + 1]++;
        break;
      }
      case 11: same(run, "mean()" + at, () -> bee.mean(), () -> model.mean()); break;
      case 12: {
        int what = some(18);
        same(run, "count(" + what + ")" + at, () -> bee.count(what), () -> model.count(what));
        break;
      }
      case 13: same(run, "root(" + b + ", " + c + ")" + at, () -> bee.root(b, c), () -> model.root(b, c)); break;
      case 14: same(run, "word(" + b + ", " + c + ")" + at, () -> bee.word(b, c), () -> model.word(b, c)); break;
      case 15: same(run, "part(" + b + ", " + c + ")" + at, () -> bee.part(b, c), () -> model.part(b, c)); break;
      case 16:
        same(run, "speller(" + a + ", " + c + ")" + at, () -> bee.speller(a, c), () -> model.speller(a, c));
        break;
      case 17: same(run, "heard(" + a + ", " + b + ")" + at, () -> bee.heard(a, b), () -> model.heard(a, b)); break;
      case 18: same(run, "knows(" + a + ", " + c + ")" + at, () -> bee.knows(a, c), () -> model.knows(a, c)); break;
      case 19: {
        int turns = some(60);
        same(run, "go(" + turns + ")" + at, () -> bee.go(turns), () -> model.go(turns));
        break;
      }
      default: same(run, "go(1)" + at, () -> bee.go(1), () -> model.go(1)); break;
    }
  }
}
