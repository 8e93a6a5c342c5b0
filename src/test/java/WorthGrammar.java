import java.util.ArrayList;
import java.util.HashMap;
import java.util.HashSet;
import java.util.List;
import java.util.Map;
import java.util.Set;

/**
 * The grammar of WORTHS told as rules, and the first byte at which no text of it can go on, found by following all
 * ways at once (Earley's). A capital letter with a digit is a rule's name and how many of ( [ ! it stands within.
 */
final class WorthGrammar {
  private static final Map<String, List<String[]>> RULES = rules();

  private WorthGrammar() {
  }

  private record Item(String name, String[] parts, int dot, int from) {
    String next() {
      return dot < parts.length ? parts[dot] : null;
    }

    Item passed() {
      return new Item(name, parts, dot + 1, from);
    }
  }

  private static void rule(Map<String, List<String[]>> rules, String name, String... ways) {
    List<String[]> list = rules.computeIfAbsent(name, x -> new ArrayList<>());
    for (String way : ways) {
      list.add(way.isEmpty() ? new String[0] : way.split(" "));
    }
  }

  /** _ is blanks, none or more; every sign is followed by them. */
  private static Map<String, List<String[]>> rules() {
    Map<String, List<String[]>> rules = new HashMap<>();
    rule(rules, "_", "", "_ blank");
    rule(rules, "START", "_ CLAUSES");
    rule(rules, "CLAUSES", "CLAUSE", "CLAUSES ; _ CLAUSE");
    rule(rules, "CLAUSE", "y _ : _ SUM0", "y _ : _ COND0 ? _ SUM0");
    rule(rules, "NUMBER", "digit _", "digit digit _", "digit digit digit _", "digit digit digit digit _");
    for (int i = 0; i <= 6; i++) {
      rule(rules, "COND" + i, "TRUTH" + i, "COND" + i + " | _ TRUTH" + i);
      rule(rules, "TRUTH" + i, "UNIT" + i, "TRUTH" + i + " & _ UNIT" + i);
      for (String sign : new String[] {"=", "<", ">"}) {
        rule(rules, "UNIT" + i, "SUM" + i + " " + sign + " _ SUM" + i);
      }
      rule(rules, "SUM" + i, "TERM" + i, "SUM" + i + " + _ TERM" + i, "SUM" + i + " - _ TERM" + i);
      rule(rules, "TERM" + i, "ATOM" + i, "TERM" + i + " * _ ATOM" + i, "TERM" + i + " / _ ATOM" + i);
      rule(rules, "ATOM" + i, "NUMBER", "t _", "p _", "b _", "m _", "d _");
      if (i < 6) {
        rule(rules, "ATOM" + i, "[ _ SUM" + (i + 1) + " ] _");
        rule(rules, "UNIT" + i, "! _ UNIT" + (i + 1), "( _ COND" + (i + 1) + " ) _");
      }
    }
    return rules;
  }

  private static boolean fits(String part, char sign) {
    if (part.equals("digit")) {
      return sign >= '0' && sign <= '9';
    }
    return part.equals("blank") ? sign == ' ' : part.length() == 1 && part.charAt(0) == sign;
  }

  static int fault(String text) {
    List<List<Item>> sets = new ArrayList<>();
    List<Item> first = new ArrayList<>();
    for (String[] way : RULES.get("START")) {
      first.add(new Item("START", way, 0, 0));
    }
    sets.add(first);
    for (int at = 0; ; at++) {
      List<Item> now = sets.get(at);
      close(sets, now, at);
      if (at == text.length()) {
        boolean whole = now.stream().anyMatch(x -> x.name.equals("START") && x.next() == null);
        return whole ? -1 : at;
      }
      List<Item> next = new ArrayList<>();
      for (Item item : now) {
        if (item.next() != null && fits(item.next(), text.charAt(at)) && !item.next().equals("_")) {
          next.add(item.passed());
        }
      }
      if (next.isEmpty()) {
        return at;
      }
      sets.add(next);
    }
  }

  private static void close(List<List<Item>> sets, List<Item> now, int at) {
    Set<Item> known = new HashSet<>(now);
    for (int i = 0; i < now.size(); i++) {
      Item item = now.get(i);
      List<Item> more = new ArrayList<>();
      String next = item.next();
      if (next == null) {
        for (Item waiting : List.copyOf(sets.get(item.from))) {
          if (item.name.equals(waiting.next())) {
            more.add(waiting.passed());
          }
        }
      } else if (RULES.containsKey(next)) {
        for (String[] way : RULES.get(next)) {
          more.add(new Item(next, way, 0, at));
        }
        if (next.equals("_")) {
          more.add(item.passed());
        }
      }
      for (Item one : more) {
        if (known.add(one)) {
          now.add(one);
        }
      }
    }
  }
}
