import java.io.IOException;
import java.lang.reflect.Field;
import java.lang.reflect.Method;
import java.lang.reflect.Modifier;
import java.nio.file.Files;
import java.nio.file.Path;
import java.util.Arrays;
import java.util.Set;
import java.util.TreeSet;
import java.util.regex.Matcher;
import java.util.regex.Pattern;

/** The face of the document, and what of LANGUAGE.md can be seen from outside or in the text of the class. */
public final class FaceTest {
  private static final String[] FACE = {
      "int feed(int,int,int,int,int)", "boolean end(int)", "int fault(int)", "int text(int)", "int place(int,int)",
      "int band(int,int)", "int order(int,int)", "boolean start(int,int)", "boolean worth(int)", "int undo()",
      "int at(int,int)", "int follows(int,int)", "int lawful()", "int crowd(int)", "int even(int,int,int)", "int slips()",
      "int well(int,int)", "int sight()", "int points(int)", "int comes(int,int)", "int home(int)", "int clashes(int)",
      "int starts(int,int)", "int soonest(int,int)", "int rich(int,int)", "int find(int,int,int,boolean)",
      "int fits(int)", "int tables(int,int)", "int wrong(int,int,int,int)", "int helpers(int)", "int pieces(int,int,int)",
      "int drawn(long)", "int image()", "int back()", "int again()", "int count(int)"};

  private static final String[] FORBIDDEN = {"->", "::", "\\bsynchronized\\b", "\\bassert\\b", "\\bfinally\\b",
      "\\btry\\b", "\\bcatch\\b", "\\bprotected\\b", "\\bRandom\\b", "\\bnanoTime\\b", "\\bcurrentTimeMillis\\b", "Exact\\b",
      "\\bString\\b", "\\bdouble\\b", "\\bfloat\\b", "static \\{", "\\bpackage\\b", "\\.hashCode", "\\.toString"};

  public static void main(String[] args) throws IOException {
    members();
    nested();
    text(Files.readString(Path.of("src/main/java/HuntTable.java")));
    Check.finish();
  }

  private static String shown(Method method) {
    StringBuilder text = new StringBuilder(method.getReturnType().getSimpleName() + " " + method.getName() + "(");
    String[] types = Arrays.stream(method.getParameterTypes()).map(Class::getSimpleName).toArray(String[]::new);
    return text.append(String.join(",", types)).append(")").toString();
  }

  private static void members() {
    Class<?> type = HuntTable.class;
    Check.due("the class is public", Modifier.isPublic(type.getModifiers()), true);
    Check.due("the class is final", Modifier.isFinal(type.getModifiers()), true);
    Check.due("constructors", type.getDeclaredConstructors().length, 1);
    Check.due("the constructor is public", Modifier.isPublic(type.getDeclaredConstructors()[0].getModifiers()), true);
    Set<String> open = new TreeSet<>();
    for (Method method : type.getDeclaredMethods()) {
      if (!Modifier.isPrivate(method.getModifiers())) {
        Check.due(method + " is public", Modifier.isPublic(method.getModifiers()), true);
        open.add(shown(method));
      }
    }
    Set<String> face = new TreeSet<>(Arrays.asList(FACE));
    Check.due("the methods are " + open + ", due are " + face, open.equals(face), true);
    for (Field field : type.getDeclaredFields()) {
      boolean constant = field.getName().equals("NONE") || field.getName().equals("HIDDEN");
      Check.due(field + " is public", Modifier.isPublic(field.getModifiers()), constant);
      Check.due(field + " is private", Modifier.isPrivate(field.getModifiers()), !constant);
    }
  }

  private static void nested() {
    Set<String> names = new TreeSet<>();
    for (String method : FACE) {
      names.add(method.substring(method.indexOf(' ') + 1, method.indexOf('(')));
    }
    for (Method method : HuntTable.class.getDeclaredMethods()) {
      if (Modifier.isPrivate(method.getModifiers())) {
        Check.due(method + " has a name of its own", names.contains(method.getName()), false);
        Check.due(method + " takes seven at most", method.getParameterCount() <= 7, true);
      }
    }
    Check.due("twelve classes at most", HuntTable.class.getDeclaredClasses().length <= 11, true);
    for (Class<?> type : HuntTable.class.getDeclaredClasses()) {
      Check.due(type + " is static", Modifier.isStatic(type.getModifiers()), true);
      int fields = 0;
      for (Method method : type.getDeclaredMethods()) {
        Check.due(method + " has a name of its own", names.contains(method.getName()), false);
        Check.due(method + " takes seven at most", method.getParameterCount() <= 7, true);
      }
      for (Field field : type.getDeclaredFields()) {
        fields += Modifier.isStatic(field.getModifiers()) ? 0 : 1;
        boolean sound = !Modifier.isStatic(field.getModifiers()) || Modifier.isFinal(field.getModifiers());
        Check.due(field + " is final, if static", sound, true);
      }
      Check.due(type + " has twenty fields at most", fields <= 20, true);
    }
  }

  private static void text(String text) {
    String code = text.replaceAll("(?s)/\\*.*?\\*/", "").replaceAll("//[^\n]*", "");
    for (String pattern : FORBIDDEN) {
      Matcher m = Pattern.compile(pattern).matcher(code);
      Check.due("the class has " + pattern, m.find(), false);
    }
    Check.due("one throw", code.split("\\bthrow\\b", -1).length - 1, 1);
    Matcher imports = Pattern.compile("import ([^;]*);").matcher(code);
    while (imports.find()) {
      Check.due("import " + imports.group(1), imports.group(1).equals("java.util.NoSuchElementException"), true);
    }
    int since = 0;
    int line = 0;
    for (String row : text.split("\n")) {
      line++;
      if (row.matches("( {4}| {8})(public |private |static |final )*[\\w\\[\\]]+ \\w+\\(.*\\{")) {
        since = line;
      }
      if (row.equals("    }") || row.equals("        }")) {
        Check.due("the method from line " + since + " has sixty lines at most", since == 0 || line - since <= 60, true);
        since = 0;
      }
      Check.due("line " + line + " has 140 signs at most", row.length() <= 140, true);
      Check.due("line " + line + " is plain", row.chars().allMatch(sign -> sign >= 32 && sign < 127), true);
    }
  }
}
