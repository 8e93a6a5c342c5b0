/** What all tests use: texts put on the tape, answers counted. */
final class Check {
  private static int wrong = 0;
  private static int calls = 0;
  private static int sentences = 0;
  private static int callsAhead = 0;
  private static String sentence = "";

  private Check() {
  }

  /** What follows is the test of this sentence of the document; one without a call to check is wrong itself. */
  static void says(String words) {
    shutSentence();
    sentence = words;
    sentences++;
    callsAhead = calls;
  }

  private static void shutSentence() {
    if (sentences > 0 && calls == callsAhead) {
      wrong++;
      System.out.println("nothing is checked of \"" + sentence + "\"");
    }
  }

  static void due(String call, long got, long want) {
    calls++;
    if (got != want) {
      wrong++;
      if (wrong <= 50) {
        String told = sentence.isEmpty() ? "" : "\"" + sentence + "\": ";
        System.out.println(told + call + " answered " + got + ", due is " + want);
      }
    }
  }

  static void due(String call, boolean got, boolean want) {
    due(call, got ? 1 : 0, want ? 1 : 0);
  }

  static int wrong() {
    return wrong;
  }

  static void finish() {
    shutSentence();
    if (sentences > 0) {
      System.out.println(sentences + " sentences");
    }
    System.out.println(wrong == 0 ? "all " + calls + " answers are as due" : wrong + " of " + calls + " answers are not as due");
    if (wrong != 0) {
      System.exit(1);
    }
  }

  /** Five numbers for each twenty bytes of a text. */
  static int[] packed(String text) {
    int[] numbers = new int[(text.length() + 19) / 20 * 5];
    for (int i = 0; i < text.length(); i++) {
      numbers[i / 4] |= text.charAt(i) << 24 - 8 * (i % 4);
    }
    return numbers;
  }

  /** The tape has this text alone. */
  static void put(HuntTable table, String text) {
    table.end(0);
    int[] numbers = packed(text);
    for (int i = 0; i < numbers.length; i += 5) {
      table.feed(numbers[i], numbers[i + 1], numbers[i + 2], numbers[i + 3], numbers[i + 4]);
    }
    due("the bytes of \"" + text + "\"", table.count(3), text.length());
  }

  static HuntTable hunt(String text) {
    HuntTable table = new HuntTable();
    put(table, text);
    due("the fault of \"" + text + "\"", table.fault(0), -1);
    due("the text \"" + text + "\" has bands", table.text(0) > 0, true);
    return table;
  }

  static int addWorth(HuntTable table, String text) {
    put(table, text);
    due("the fault of \"" + text + "\"", table.fault(1), -1);
    int number = table.text(1);
    due("worth(" + number + ")", table.worth(number), true);
    return number;
  }
}
