import java.nio.charset.StandardCharsets;

/** What the tests share: answers that are due, and lists fed as texts. */
final class Check {
  interface Call {
    long answer();
  }

  private final String name;
  private int looked = 0;
  private int wrong = 0;

  Check(String name) {
    this.name = name;
  }

  void same(String what, long got, long due) {
    looked++;
    if (got != due) {
      fail(what + " answered " + got + ", due is " + due);
    }
  }

  void same(String what, double got, double due) {
    looked++;
    if (got != due) {
      fail(what + " answered " + got + ", due is " + due);
    }
  }

  void throwing(String what, Class<? extends RuntimeException> due, Call call) {
    looked++;
    try {
      fail(what + " answered " + call.answer() + ", due is " + due.getSimpleName());
    } catch (RuntimeException e) {
      if (e.getClass() != due) {
        fail(what + " threw " + e + ", due is " + due.getSimpleName());
      }
    }
  }

  /** The call throws this, and changes nothing that can be seen. */
  void refused(BeeTurnpike bee, String what, Class<? extends RuntimeException> due, Call call) {
    long before = bee.digest();
    throwing(what, due, call);
    same(what + ", the digest behind it", bee.digest(), before);
  }

  /** What count() tells from this number on. */
  void counts(BeeTurnpike bee, String when, int from, int... due) {
    for (int i = 0; i < due.length; i++) {
      same("count(" + (from + i) + ") " + when, bee.count(from + i), due[i]);
    }
  }

  /** What speller() tells by this number of each speller. */
  void spellers(BeeTurnpike bee, String when, int what, int... due) {
    for (int s = 0; s < due.length; s++) {
      same("speller(" + s + ", " + what + ") " + when, bee.speller(s, what), due[s]);
    }
  }

  void fail(String text) {
    wrong++;
    if (wrong <= 40) {
      System.out.println(name + ": " + text);
    }
  }

  int wrong() {
    return wrong;
  }

  void end() {
    System.out.println(name + ": " + looked + " answers, " + wrong + " not as due");
    if (wrong != 0) {
      System.exit(1);
    }
  }

  // ---- lists

  /** Feeds a text to an empty tape. */
  static void feed(BeeTurnpike bee, String text) {
    feed(bee, text.getBytes(StandardCharsets.ISO_8859_1));
  }

  static void feed(BeeTurnpike bee, byte[] bytes) {
    for (int at = 0; at < bytes.length; at += 20) {
      bee.feed(number(bytes, at), number(bytes, at + 4), number(bytes, at + 8),
          number(bytes, at + 12), number(bytes, at + 16));
    }
    bee.trim(bytes.length);
  }

  private static int number(byte[] bytes, int from) {
    int number = 0;
    for (int i = from; i < from + 4; i++) {
      number = number << 8 | (i < bytes.length ? bytes[i] & 255 : 0);
    }
    return number;
  }

  static int teach(BeeTurnpike bee, String text) {
    feed(bee, text);
    return bee.teach();
  }

  /** A new bee that was taught this list, in which there must be no error. */
  static BeeTurnpike taught(String text) {
    BeeTurnpike bee = new BeeTurnpike();
    int error = teach(bee, text);
    if (error != 0) {
      throw new AssertionError("error " + error + " at " + bee.errorAt() + " in " + text);
    }
    return bee;
  }

  /** A new bee's teach() answers this error at this place (-1 with 0). */
  void error(String text, int error, int at) {
    BeeTurnpike bee = new BeeTurnpike();
    same("teach() of \"" + text + "\"", teach(bee, text), error);
    same("errorAt() of \"" + text + "\"", bee.errorAt(), at);
    same("the tape behind \"" + text + "\"", bee.count(17), 0);
  }

  /** The list has this error at the place that a bar marks. */
  void errorAtBar(int error, String marked) {
    int at = marked.indexOf('|');
    error(marked.substring(0, at) + marked.substring(at + 1), error, at);
  }

  void fine(String text) {
    error(text, 0, -1);
  }
}
