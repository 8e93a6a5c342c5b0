import java.io.IOException;
import java.lang.reflect.InvocationTargetException;
import java.lang.reflect.Method;
import java.nio.file.Files;
import java.nio.file.Path;
import java.util.List;
import java.util.regex.Matcher;
import java.util.regex.Pattern;
import java.util.stream.Stream;

/** What README.md says: its example answers so, each call of the face and each test is named there. */
public final class ReadmeTest {
  private static final Pattern CALL = Pattern.compile("table\\.(\\w+)\\((.*?)\\); +// (-?\\w+)(:.*)?");

  public static void main(String[] args) throws IOException, ReflectiveOperationException {
    String text = Files.readString(Path.of("README.md"));
    example(text);
    exampleTexts(text);
    names(text);
    Check.finish();
  }

  private static void example(String text) throws ReflectiveOperationException {
    HuntTable table = new HuntTable();
    int calls = 0;
    for (String row : text.split("\n")) {
      Matcher call = CALL.matcher(row);
      boolean matches = call.matches();
      Check.due("\"" + row + "\" can be read", matches || !row.startsWith("table."), true);
      if (matches) {
        calls++;
        String got = answer(table, call.group(1), call.group(2).split(", *"));
        Check.due(row + " answered " + got, got.equals(call.group(3)), true);
      }
    }
    Check.due("the example has calls", calls > 10, true);
  }

  /** A hunt and a worth stand there between marks: neither may have a fault. */
  private static void exampleTexts(String text) {
    Matcher marked = Pattern.compile("`((p|y:)[^`\n]*;[^`\n]*)`").matcher(text);
    int texts = 0;
    while (marked.find()) {
      HuntTable table = new HuntTable();
      Check.put(table, marked.group(1));
      Check.due("the fault of \"" + marked.group(1) + "\"", table.fault(marked.group(2).equals("p") ? 0 : 1), -1);
      texts++;
    }
    Check.due("texts of both sorts", texts, 2);
  }

  private static Method named(String name) {
    return Stream.of(HuntTable.class.getDeclaredMethods()).filter(m -> m.getName().equals(name)).findFirst().orElseThrow();
  }

  private static String answer(HuntTable table, String name, String[] words) throws ReflectiveOperationException {
    Method method = named(name);
    Class<?>[] types = method.getParameterTypes();
    Object[] values = new Object[types.length];
    for (int i = 0; i < values.length; i++) {
      values[i] = value(types[i], words[i].trim());
    }
    try {
      return String.valueOf(method.invoke(table, values));
    } catch (InvocationTargetException e) {
      return e.getCause().getClass().getSimpleName();
    }
  }

  private static Object value(Class<?> type, String word) {
    if (type == boolean.class) {
      return Boolean.valueOf(word);
    }
    long number = Long.decode(word);
    if (type == long.class) {
      return number;
    }
    return (int) number;
  }

  private static void names(String text) throws IOException {
    for (Method method : HuntTable.class.getMethods()) {
      if (method.getDeclaringClass() == HuntTable.class) {
        Check.due("README.md names " + method.getName(), text.contains("`" + method.getName() + "`"), true);
      }
    }
    List<Path> tests;
    try (Stream<Path> files = Files.list(Path.of("src/test/java"))) {
      tests = files.filter(file -> file.toString().endsWith("Test.java")).toList();
    }
    for (Path test : tests) {
      String name = test.getFileName().toString().replace(".java", "");
      Check.due("README.md names " + name, text.contains("`" + name + "`"), true);
    }
  }
}
