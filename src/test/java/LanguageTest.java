import java.io.IOException;
import java.io.PrintWriter;
import java.io.StringWriter;
import java.net.URISyntaxException;
import java.nio.file.Files;
import java.nio.file.Path;
import java.util.ArrayList;
import java.util.HashMap;
import java.util.HashSet;
import java.util.List;
import java.util.Map;
import java.util.Set;
import java.util.TreeMap;
import java.util.TreeSet;
import java.util.regex.Matcher;
import java.util.regex.Pattern;
import java.util.spi.ToolProvider;
import java.util.stream.Stream;

/** Rules of LANGUAGE.md that are seen in the compiled class alone: which library is used, how deep calls go, what is made. */
public final class LanguageTest {
  private static final Set<String> LIBRARY = Set.of("java/lang/Object.<init>", "java/util/NoSuchElementException.<init>",
      "java/lang/Math.abs", "java/lang/Math.max", "java/lang/Math.min", "java/lang/Integer.bitCount", "java/lang/Long.bitCount",
      "java/lang/System.arraycopy");
  private static final int MOST_DEEP = 8;
  private static final Pattern METHOD = Pattern.compile("  (?:\\S.* )?([\\w$.]+)\\(.*\\)(?: throws [\\w.]+)?;");
  private static final String CONSTANTS = "  static {};";
  private static final Pattern CALL = Pattern.compile(".* invoke(\\w+) .*// (?:Interface)?Method (\\S+?):.*");
  private static final Pattern MAKING = Pattern.compile(".* (new|newarray|anewarray|multianewarray) .*");

  private final Map<String, Set<String>> calls = new TreeMap<>();
  private final Map<String, Set<String>> reached = new HashMap<>();
  private final Set<String> makers = new TreeSet<>();

  public static void main(String[] args) throws IOException, URISyntaxException {
    LanguageTest test = new LanguageTest();
    Path classes = Path.of(HuntTable.class.getProtectionDomain().getCodeSource().getLocation().toURI());
    try (Stream<Path> files = Files.list(classes)) {
      for (Path file : files.filter(LanguageTest::isOfTheClass).sorted().toList()) {
        test.look(file);
      }
    }
    Check.due("methods are seen", test.calls.size() > 100, true);
    test.library();
    test.depth();
    test.made();
    Check.finish();
  }

  private static boolean isOfTheClass(Path file) {
    return file.getFileName().toString().matches("HuntTable(\\$\\w+)?\\.class");
  }

  private void look(Path file) {
    String type = file.getFileName().toString().replace(".class", "");
    StringWriter shown = new StringWriter();
    ToolProvider javap = ToolProvider.findFirst("javap").orElseThrow();
    int code = javap.run(new PrintWriter(shown), new PrintWriter(System.out), "-c", "-p", file.toString());
    Check.due("javap " + type, code, 0);
    String method = type;
    for (String row : shown.toString().split("\\R")) {
      Matcher head = METHOD.matcher(row);
      Matcher call = CALL.matcher(row);
      if (head.matches()) {
        method = type + "." + (head.group(1).equals(type) ? "<init>" : head.group(1));
        Check.due(method + " stands once", calls.containsKey(method), false);
        calls.put(method, new TreeSet<>());
      } else if (call.matches()) {
        String name = call.group(2).replace("\"", "");
        calls.get(method).add(name.contains(".") ? name : type + "." + name);
        Check.due(method + " has a call by name alone", call.group(1).equals("dynamic"), false);
      } else if (row.equals(CONSTANTS)) {
        method = type + ".<clinit>";
        calls.put(method, new TreeSet<>());
      } else if (MAKING.matcher(row).matches() && !method.endsWith("init>")) {
        makers.add(method);
      }
    }
  }

  /** Rule 4. */
  private void library() {
    for (Map.Entry<String, Set<String>> method : calls.entrySet()) {
      for (String called : method.getValue()) {
        boolean own = called.startsWith("HuntTable");
        Check.due(method.getKey() + " may call " + called, own ? calls.containsKey(called) : LIBRARY.contains(called), true);
      }
    }
  }

  private Set<String> reachedFrom(String method) {
    Set<String> known = reached.get(method);
    if (known != null) {
      return known;
    }
    Set<String> all = new HashSet<>();
    List<String> open = new ArrayList<>(calls.getOrDefault(method, Set.of()));
    while (!open.isEmpty()) {
      String next = open.remove(open.size() - 1);
      if (all.add(next)) {
        open.addAll(calls.getOrDefault(next, Set.of()));
      }
    }
    reached.put(method, all);
    return all;
  }

  private boolean isRecursion(String method) {
    return reachedFrom(method).contains(method);
  }

  /** Rule 11: those that are within a recursion do not count, nor do calls of the library. */
  private void depth() {
    Map<String, Integer> depths = new HashMap<>();
    for (String method : calls.keySet()) {
      int deep = depthOf(method, depths);
      Check.due(method + " goes " + deep + " deep", deep <= MOST_DEEP, true);
    }
  }

  private int depthOf(String method, Map<String, Integer> depths) {
    if (depths.containsKey(method) || !calls.containsKey(method)) {
      return depths.getOrDefault(method, 0);
    }
    Set<String> circle = new HashSet<>(Set.of(method));
    for (String other : reachedFrom(method)) {
      if (reachedFrom(other).contains(method)) {
        circle.add(other);
      }
    }
    int deepest = 0;
    for (String one : circle) {
      for (String called : calls.get(one)) {
        deepest = Math.max(deepest, circle.contains(called) ? 0 : depthOf(called, depths));
      }
    }
    depths.put(method, deepest + (isRecursion(method) ? 0 : 1));
    return depths.get(method);
  }

  /** Rule 12: rows are made in constructors, but for the row of tables and the one exception. */
  private void made() {
    Set<String> due = new TreeSet<>(Set.of("HuntTable$Finds.seekTables", "HuntTable.place"));
    Check.due("objects are made in " + makers + ", due is " + due, makers.equals(due), true);
  }
}
