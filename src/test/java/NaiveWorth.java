/** The worth of one coming, by cutting its text (without blanks, without fault) at the sign that binds least. */
final class NaiveWorth {
  private final int[] letters;

  NaiveWorth(int turn, int place, int band, int minute, int far) {
    letters = new int[] {turn, place, band, minute, far};
  }

  int worth(String text) {
    for (String clause : text.replace(" ", "").split(";")) {
      String rest = clause.substring(2);
      int mark = rest.indexOf('?');
      if (mark < 0 || holds(rest.substring(0, mark))) {
        return sum(rest.substring(mark + 1));
      }
    }
    return 0;
  }

  /** Where the last of some signs stands outside all brackets. */
  private static int last(String text, String signs) {
    int open = 0;
    for (int i = text.length() - 1; i >= 0; i--) {
      char sign = text.charAt(i);
      if (sign == ')' || sign == ']') {
        open++;
      } else if (sign == '(' || sign == '[') {
        open--;
      } else if (open == 0 && signs.indexOf(sign) >= 0) {
        return i;
      }
    }
    return -1;
  }

  private boolean holds(String text) {
    int cut = last(text, "|");
    if (cut >= 0) {
      return holds(text.substring(0, cut)) | holds(text.substring(cut + 1));
    }
    cut = last(text, "&");
    if (cut >= 0) {
      return holds(text.substring(0, cut)) & holds(text.substring(cut + 1));
    }
    if (text.charAt(0) == '!') {
      return !holds(text.substring(1));
    }
    if (text.charAt(0) == '(') {
      return holds(text.substring(1, text.length() - 1));
    }
    cut = last(text, "=<>");
    int left = sum(text.substring(0, cut));
    int right = sum(text.substring(cut + 1));
    char sign = text.charAt(cut);
    return sign == '=' ? left == right : sign == '<' ? left < right : left > right;
  }

  private int sum(String text) {
    int cut = last(text, "+-");
    cut = cut >= 0 ? cut : last(text, "*/");
    if (cut >= 0) {
      long left = sum(text.substring(0, cut));
      long right = sum(text.substring(cut + 1));
      char sign = text.charAt(cut);
      long made = sign == '+' ? left + right : sign == '-' ? left - right : sign == '*' ? left * right
          : right == 0 ? 0 : left / right;
      return (int) (made > 1000000 ? 1000000 : made < -1000000 ? -1000000 : made);
    }
    char sign = text.charAt(0);
    if (sign == '[') {
      return sum(text.substring(1, text.length() - 1));
    }
    int letter = "tpbmd".indexOf(sign);
    return letter >= 0 ? letters[letter] : Integer.parseInt(text);
  }
}
