import java.util.ArrayList;
import java.util.Collections;
import java.util.List;
import java.util.Random;

/** Texts by a seed: hunts and worths without fault, and such as are spoilt a little. */
final class RandomTexts {
  private final Random random;

  RandomTexts(Random random) {
    this.random = random;
  }

  private int upTo(int most) {
    return random.nextInt(most + 1);
  }

  private String blanks() {
    return random.nextInt(12) == 0 ? " ".repeat(1 + upTo(1)) : "";
  }

  private String number(int least, int most) {
    int value = least + upTo(most - least);
    return value < 10 && random.nextInt(8) == 0 ? "0" + value : String.valueOf(value);
  }

  private String item(char letter, int least, int most) {
    return random.nextInt(4) == 0 ? "" : blanks() + letter + blanks() + number(least, most);
  }

  String hunt(int mostPlaces, int mostBands) {
    int places = 2 + upTo(mostPlaces - 2);
    int bands = 1 + upTo(mostBands - 1);
    int far = random.nextBoolean() ? 4 : 20;
    List<String> clauses = new ArrayList<>();
    for (int i = 0; i < places; i++) {
      String x = item('x', 0, far);
      String y = item('y', 0, far);
      clauses.add("p" + (random.nextBoolean() ? x + y : y + x));
    }
    for (int i = 0; i < bands; i++) {
      clauses.add("b" + item('s', 1, random.nextBoolean() ? 2 : 5));
    }
    if (random.nextInt(4) > 0) {
      clauses.add("l" + item('f', 0, random.nextBoolean() ? 3 : 9) + item('k', 0, random.nextBoolean() ? 4 : 30));
    }
    Collections.shuffle(clauses, random);
    return cut(blanks() + String.join(blanks() + ";" + blanks(), clauses) + blanks());
  }

  private static String cut(String text) {
    return text.length() > 160 ? text.substring(0, 160) : text;
  }

  String worth() {
    String text = clause();
    for (int i = upTo(2); i > 0; i--) {
      text += blanks() + ";" + clause();
    }
    return text.length() > 160 ? worth() : text;
  }

  private String clause() {
    String head = blanks() + "y" + blanks() + ":" + blanks();
    return random.nextInt(3) == 0 ? head + sum(upTo(3)) : head + condition(upTo(4)) + blanks() + "?" + sum(upTo(3));
  }

  private String chain(int many, String signs, int rest, int kind) {
    StringBuilder text = new StringBuilder();
    for (int i = 0; i <= many; i++) {
      String sign = i == 0 ? "" : blanks() + signs.charAt(random.nextInt(signs.length())) + blanks();
      text.append(sign).append(kind == 0 ? unit(rest) : kind == 1 ? term(rest) : atom(rest));
    }
    return text.toString();
  }

  private int few() {
    return random.nextInt(3) == 0 ? 1 + upTo(1) : 0;
  }

  private String condition(int within) {
    return chain(few(), "|&", within, 0);
  }

  private String unit(int within) {
    int kind = within == 0 ? 2 : upTo(3);
    if (kind == 0) {
      return "!" + blanks() + unit(within - 1);
    }
    if (kind == 1) {
      return "(" + blanks() + condition(within - 1) + blanks() + ")";
    }
    return sum(Math.min(1, within)) + blanks() + "=<>".charAt(upTo(2)) + blanks() + sum(Math.min(1, within));
  }

  private String sum(int within) {
    return chain(few(), "+-", within, 1);
  }

  private String term(int within) {
    return chain(few(), "*/", within, 2);
  }

  private String atom(int within) {
    if (within > 0 && random.nextInt(3) == 0) {
      return "[" + blanks() + sum(within - 1) + blanks() + "]";
    }
    if (random.nextInt(3) > 0) {
      return String.valueOf("tpbmd".charAt(upTo(4)));
    }
    return random.nextBoolean() ? String.valueOf(upTo(9)) : String.valueOf(upTo(9999));
  }

  /** A byte more, less or another. */
  String spoilt(String text, String signs) {
    StringBuilder spoilt = new StringBuilder(text);
    for (int i = upTo(2); i >= 0; i--) {
      char sign = signs.charAt(random.nextInt(signs.length()));
      int at = upTo(spoilt.length());
      int kind = upTo(3);
      if (kind == 0 || at == spoilt.length()) {
        spoilt.insert(at, sign);
      } else if (kind == 1) {
        spoilt.deleteCharAt(at);
      } else if (kind == 2) {
        spoilt.setCharAt(at, sign);
      } else {
        spoilt.setLength(at);
      }
    }
    return cut(spoilt.toString());
  }
}
