import java.util.Random;

/** Promises 4 and 5: where texts go wrong, over many texts, by two grammars told another way. */
public final class FaultTextTest {
  private static final String HUNT_SIGNS = "pbl;xysfk0123459 ?";
  private static final String WORTH_SIGNS = "y:;?|&!()[]=<>+-*/tpbmd0123 x";

  public static void main(String[] args) {
    Random random = new Random(20261118L);
    RandomTexts texts = new RandomTexts(random);
    HuntTable table = new HuntTable();
    int sound = 0;
    for (int i = 0; i < 20000; i++) {
      String hunt = texts.hunt(7, 7);
      sound += compareHunt(table, hunt);
      sound += compareHunt(table, texts.spoilt(hunt, HUNT_SIGNS));
      sound += compareHunt(table, soup(random, HUNT_SIGNS, 1 + random.nextInt(12)));
    }
    for (int i = 0; i < 1500; i++) {
      String worth = texts.worth();
      Check.put(table, worth);
      Check.due("fault(1) of \"" + worth + "\"", table.fault(1), -1);
      sound += compareWorth(table, worth);
      sound += compareWorth(table, texts.spoilt(worth, WORTH_SIGNS));
      sound += compareWorth(table, "y:" + soup(random, WORTH_SIGNS, 1 + random.nextInt(12)));
      sound += compareWorth(table, deep(random));
    }
    System.out.println(sound + " texts without a fault");
    Check.finish();
  }

  private static String soup(Random random, String signs, int length) {
    StringBuilder text = new StringBuilder();
    for (int i = 0; i < length; i++) {
      text.append(signs.charAt(random.nextInt(signs.length())));
    }
    return text.toString();
  }

  /** About six of ( [ ! within one another, shut again or not. */
  private static String deep(Random random) {
    StringBuilder open = new StringBuilder("y:");
    StringBuilder shut = new StringBuilder();
    int many = 4 + random.nextInt(4);
    int units = random.nextInt(many + 1);
    for (int i = 0; i < many; i++) {
      char sign = i >= units ? '[' : random.nextBoolean() ? '!' : '(';
      open.append(sign);
      if (sign == '(') {
        shut.insert(0, ")");
      } else if (sign == '[') {
        shut.insert(0, i == units ? "]=1" : "]");
      }
    }
    open.append(units == many ? "t=1" : "t").append(shut).append("?p");
    return random.nextInt(4) == 0 ? open.substring(0, random.nextInt(open.length())) : open.toString();
  }

  private static int compareHunt(HuntTable table, String text) {
    Check.put(table, text);
    int want = NaiveHunt.huntFault(text);
    Check.due("fault(0) of \"" + text + "\"", table.fault(0), want);
    return want == -1 ? 1 : 0;
  }

  private static int compareWorth(HuntTable table, String text) {
    Check.put(table, text);
    int want = WorthGrammar.fault(text);
    Check.due("fault(1) of \"" + text + "\"", table.fault(1), want);
    return want == -1 ? 1 : 0;
  }
}
