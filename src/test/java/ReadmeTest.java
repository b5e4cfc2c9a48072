import java.lang.reflect.InvocationTargetException;
import java.lang.reflect.Method;
import java.nio.file.Files;
import java.nio.file.Path;
import java.util.ArrayList;
import java.util.List;
import java.util.TreeSet;
import java.util.regex.Matcher;
import java.util.regex.Pattern;

/** README.md tells the truth: its calls answer as they stand there, and its table says what throws. */
public final class ReadmeTest {
  private static final Pattern CALL = Pattern.compile("bee\\.(\\w+)\\(([-0-9, ]*)\\);\\s+// (.+)");
  private static final Pattern THROWN = Pattern.compile("\\| (?:`(\\w+).*?` )?\\| `(\\w+)` \\|.*");

  public static void main(String[] args) throws Exception {
    Check check = new Check("ReadmeTest");
    List<String> lines = Files.readAllLines(Path.of("README.md"));
    callsAnswerAsTold(check, lines);
    theTableHasWhatThrows(check, lines);
    check.end();
  }

  private static void callsAnswerAsTold(Check check, List<String> lines) throws Exception {
    BeeTurnpike bee = new BeeTurnpike();
    int calls = 0;
    for (String line : lines) {
      Matcher call = CALL.matcher(line);
      if (call.matches()) {
        if (call.group(1).equals("teach")) {
          Check.feed(bee, listIn(lines));
        }
        String got = answer(bee, call.group(1), call.group(2));
        check.same(line + " answered " + got + "; as told", got.equals(call.group(3)) ? 1 : 0, 1);
        calls++;
      }
    }
    check.same("calls told in README.md", calls, 25);
  }

  /** What stands in the block of text. */
  private static String listIn(List<String> lines) {
    int first = lines.indexOf("```text") + 1;
    int end = first;
    while (!lines.get(end).equals("```")) {
      end++;
    }
    return String.join("\n", lines.subList(first, end)) + "\n";
  }

  private static String answer(BeeTurnpike bee, String name, String numbers) throws Exception {
    String[] texts = numbers.isEmpty() ? new String[0] : numbers.split(", ");
    Class<?>[] types = new Class<?>[texts.length];
    Object[] values = new Object[texts.length];
    for (int i = 0; i < texts.length; i++) {
      types[i] = int.class;
      values[i] = Integer.valueOf(texts[i]);
    }
    try {
      return String.valueOf(BeeTurnpike.class.getMethod(name, types).invoke(bee, values));
    } catch (InvocationTargetException e) {
      return "throws " + e.getCause().getClass().getSimpleName();
    }
  }

  /** A method's second exception stands in a row without its name. */
  private static void theTableHasWhatThrows(Check check, List<String> lines) {
    TreeSet<String> told = new TreeSet<>();
    List<String> thrown = new ArrayList<>();
    String name = "";
    for (String line : lines) {
      Matcher row = THROWN.matcher(line);
      if (row.matches()) {
        if (row.group(1) != null) {
          name = row.group(1);
          thrown.clear();
        } else {
          told.remove(name + " " + thrown);
        }
        thrown.add(row.group(2));
        told.add(name + " " + thrown);
      }
    }
    TreeSet<String> due = new TreeSet<>();
    for (Method method : BeeTurnpike.class.getMethods()) {
      if (method.getDeclaringClass() == BeeTurnpike.class && method.getExceptionTypes().length > 0) {
        List<String> names = new ArrayList<>();
        for (Class<?> type : method.getExceptionTypes()) {
          names.add(type.getSimpleName());
        }
        due.add(method.getName() + " " + names);
      }
    }
    if (!told.equals(due)) {
      check.fail("README.md tells " + told + ", due are " + due);
    }
    check.same("methods that throw, in README.md", told.size(), due.size());
  }
}
