import java.lang.reflect.Constructor;
import java.lang.reflect.Field;
import java.lang.reflect.Method;
import java.lang.reflect.Modifier;
import java.util.ArrayList;
import java.util.List;
import java.util.TreeSet;

/** The class shows the document's face, and nothing else. */
public final class FaceTest {
  private static final String[] FACE = {
    "int feed(int,int,int,int,int) throws IllegalStateException",
    "int trim(int) throws IllegalArgumentException",
    "int teach()",
    "int errorAt()",
    "int count(int) throws IndexOutOfBoundsException",
    "int root(int,int) throws IndexOutOfBoundsException",
    "int word(int,int) throws IndexOutOfBoundsException",
    "int part(int,int) throws IndexOutOfBoundsException",
    "int speller(int,int) throws IndexOutOfBoundsException",
    "int knows(int,int) throws IndexOutOfBoundsException",
    "int heard(int,int) throws IndexOutOfBoundsException",
    "int strong(int,int) throws IndexOutOfBoundsException",
    "int hint() throws IllegalStateException",
    "int skip() throws IllegalStateException",
    "int learn(int,int,int) throws IndexOutOfBoundsException,IllegalArgumentException",
    "int award(int,int) throws IndexOutOfBoundsException,IllegalArgumentException",
    "int go(int) throws IllegalArgumentException",
    "int foresee(int,int) throws IllegalArgumentException,IndexOutOfBoundsException",
    "int until(int) throws IndexOutOfBoundsException",
    "int winner()",
    "int advise()",
    "double mean()",
    "long digest()",
  };

  public static void main(String[] args) {
    Check check = new Check("FaceTest");
    Class<?> type = BeeTurnpike.class;
    check.same("the class's modifiers", type.getModifiers(), Modifier.PUBLIC | Modifier.FINAL);

    TreeSet<String> open = new TreeSet<>();
    TreeSet<String> closed = new TreeSet<>();
    for (Method method : type.getDeclaredMethods()) {
      if (!method.isSynthetic()) {
        if (Modifier.isPrivate(method.getModifiers())) {
          closed.add(method.getName());
        } else {
          open.add(describe(method));
        }
      }
    }
    TreeSet<String> due = new TreeSet<>(List.of(FACE));
    if (!open.equals(due)) {
      check.fail("the methods are " + open + ", due are " + due);
    }
    for (String line : FACE) {
      String name = line.substring(line.indexOf(' ') + 1, line.indexOf('('));
      check.same("a private method is named " + name, closed.contains(name) ? 1 : 0, 0);
    }

    Constructor<?>[] constructors = type.getDeclaredConstructors();
    check.same("constructors", constructors.length, 1);
    check.same("the constructor's modifiers", constructors[0].getModifiers(), Modifier.PUBLIC);
    check.same("the constructor's parameters", constructors[0].getParameterCount(), 0);
    lookAtFields(check, type);
    for (Class<?> inner : type.getDeclaredClasses()) {
      check.same(inner + " is open", inner.getModifiers()
          & (Modifier.PUBLIC | Modifier.PROTECTED), 0);
      lookAtFields(check, inner);
    }
    check.end();
  }

  private static String describe(Method method) {
    StringBuilder text = new StringBuilder();
    text.append(method.getReturnType().getName()).append(' ').append(method.getName());
    text.append('(').append(names(method.getParameterTypes())).append(')');
    String thrown = names(method.getExceptionTypes());
    return text + (thrown.isEmpty() ? "" : " throws " + thrown);
  }

  private static String names(Class<?>[] types) {
    List<String> names = new ArrayList<>();
    for (Class<?> type : types) {
      names.add(type.getSimpleName());
    }
    return String.join(",", names);
  }

  /** No field is open, and what is static never changes. */
  private static void lookAtFields(Check check, Class<?> type) {
    for (Field field : type.getDeclaredFields()) {
      if (!field.isSynthetic()) {
        int modifiers = field.getModifiers();
        check.same(field + " is private", modifiers & Modifier.PRIVATE, Modifier.PRIVATE);
        if (Modifier.isStatic(modifiers)) {
          check.same(field + " is final", modifiers & Modifier.FINAL, Modifier.FINAL);
        }
      }
    }
  }
}
