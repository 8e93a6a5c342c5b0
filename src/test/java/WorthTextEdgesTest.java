/** The text of a worth and what it is worth: for each sentence that names an edge a test of its own. */
public final class WorthTextEdgesTest {
  private static final int NONE = -1;
  private static final int BOUND = 1000000;

  public static void main(String[] args) {
    fourAtMost();
    clauses();
    conditions();
    sums();
    within();
    blanks();
    faults();
    bounds();
    division();
    whichClause();
    letters();
    Check.finish();
  }

  private static void fault(String text, int want) {
    HuntTable t = new HuntTable();
    Check.put(t, text);
    Check.due("fault(1) of \"" + text + "\"", t.fault(1), want);
    Check.due("text(1) of \"" + text + "\"", t.text(1), want == NONE ? 0 : NONE);
    Check.due("the bytes then", t.count(3), want == NONE ? 0 : text.length());
    Check.due("the WORTHS then", t.count(2), want == NONE ? 1 : 0);
  }

  /** What the sum of a clause is worth in turn 0 at place 0, two minutes and two steps from the gate. */
  private static void sum(String sum, int want) {
    worth("y:t=0?" + sum, want);
  }

  private static void worth(String text, int want) {
    HuntTable t = Check.hunt("px2;p;b");
    Check.addWorth(t, text);
    Check.due("points by \"" + text + "\"", t.points(0), want);
  }

  private static void holds(String condition, boolean want) {
    worth("y:t=0?0;y:" + condition + "?1", want ? 1 : 0);
  }

  private static void fourAtMost() {
    Check.says("WORTHS (4 at most)");
    HuntTable t = Check.hunt("p;p;b");
    for (int i = 0; i < 4; i++) {
      Check.put(t, "y:" + i);
      Check.due("text(1)", t.text(1), i);
      Check.due("WORTHS", t.count(2), i + 1);
    }
    Check.put(t, "y:4");
    Check.due("it has no fault", t.fault(1), NONE);
    Check.due("a fifth", t.text(1), NONE);
    Check.due("WORTHS", t.count(2), 4);
    Check.due("the TAPE stays", t.count(3), 3);
    for (int i = 0; i < 4; i++) {
      t.worth(i);
      Check.due("each is what it was", t.points(0), 2 * i);
    }
    Check.put(t, "p;p;p;b;b");
    Check.due("a HUNT can be told still", t.text(0), 2);
    Check.due("WORTHS stay", t.count(2), 4);
  }

  private static void clauses() {
    Check.says("CLAUSES with ; between, one at least");
    fault("", 0);
    fault("y:1", NONE);
    fault("y:1;", 4);
    fault("y:1;y:2", NONE);
    fault(";y:1", 0);
    fault("y:1;;y:2", 4);
    fault("y:1y:2", 3);
    fault("y:1;1", 4);
    fault("y:1" + ";y:1".repeat(39), NONE);

    Check.says("y, : , perhaps CONDITION ?, then SUM");
    fault("y", 1);
    fault("y:", 2);
    fault("x:1", 0);
    fault(":1", 0);
    fault("y1", 1);
    fault("y::1", 2);
    fault("y:?1", 2);
    fault("y:;y:1", 2);
    fault("y:1=1?2", NONE);
    fault("y:1=1?", 6);
    fault("y:1=1?;", 6);
    fault("y:1=1", 5);
    fault("y:1=1;y:1", 5);
    fault("y:1?2", 3);
    fault("y:1=1?2?3", 7);
    fault("y:1=1?2=3", 7);
    fault("y:1=1?2=3?4", 7);

    Check.says("A CLAUSE that goes on with ! or ( behind its : has a CONDITION");
    fault("y:(t=1)?2", NONE);
    fault("y:(t=1)", 7);
    fault("y:(t=1);y:1", 7);
    fault("y:(t=1)*2", 7);
    fault("y:(t=1)=1?2", 7);
    fault("y:(t)", 4);
    fault("y:(t)=1?2", 4);
    fault("y:!t=1?2", NONE);
    fault("y:!t=1", 6);
    fault("y:!t", 4);
    fault("y:!t?2", 4);
    fault("y:!(t)=1?2", 5);
  }

  private static void conditions() {
    Check.says("CONDITION: TRUTHS with | between");
    fault("y:1=1|2=2?3", NONE);
    fault("y:|1=1?3", 2);
    fault("y:1=1|?3", 6);
    fault("y:1=1||2=2?3", 6);
    fault("y:1=1|2?3", 7);
    holds("t=1|t=2", true);
    holds("t=2|t=1", true);
    holds("t=2|t=3", false);

    Check.says("TRUTH: UNITS with & between");
    fault("y:1=1&2=2?3", NONE);
    fault("y:&1=1?3", 2);
    fault("y:1=1&?3", 6);
    fault("y:1=1&&2=2?3", 6);
    fault("y:1&2=2?3", 3);
    holds("t=1&p=1", true);
    holds("t=1&p=0", false);
    holds("t=0&p=1", false);
    holds("t=1|t=2&t=3", true);
    holds("t=3&t=2|t=1", true);
    holds("t=1&t=2|t=3", false);

    Check.says("UNIT: ! UNIT, ( CONDITION ), or SUM, one of = < >, SUM");
    fault("y:1=1=1?2", 5);
    fault("y:1<=1?2", 4);
    fault("y:1==1?2", 4);
    fault("y:1!=1?2", 3);
    fault("y:=1?2", 2);
    fault("y:1=?2", 4);
    fault("y:()?2", 3);
    fault("y:(1=1?2", 6);
    fault("y:(1=1]?2", 6);
    fault("y:1=1)?2", 5);
    fault("y:!?2", 3);
    fault("y:1=!1?2", 4);
    fault("y:1=(1)?2", 4);
    holds("t=1", true);
    holds("t=0", false);
    holds("t<2", true);
    holds("t<1", false);
    holds("t>0", true);
    holds("t>1", false);
    holds("t<2&t=1", true);
    holds("t>0&t=1", true);
    holds("!t<2", false);
    holds("!t>0", false);
    holds("!t<1", true);
    holds("!t>1", true);
    holds("!t=2", true);
    holds("!t=1", false);
    holds("!!t=1", true);
    holds("!t=2&t=1", true);
    holds("!t=1&t=2", false);
    holds("!(t=1&t=2)", true);
    holds("!t=1|t=1", true);
    holds("!(t=1|t=2)", false);
    holds("(t=1|t=2)&t=3", false);
  }

  private static void sums() {
    Check.says("SUM: TERMS with + or - between");
    fault("y:+1", 2);
    fault("y:-1", 2);
    fault("y:1+", 4);
    fault("y:1-", 4);
    fault("y:1+-1", 4);
    sum("9-4-3", 2);
    sum("9-[4-3]", 8);
    sum("9-4+3", 8);

    Check.says("TERM: ATOMS with * or / between");
    fault("y:*1", 2);
    fault("y:/1", 2);
    fault("y:1*", 4);
    fault("y:1/", 4);
    fault("y:1*/1", 4);
    fault("y:1%2", 3);
    sum("2+3*4", 14);
    sum("[2+3]*4", 20);
    sum("24/6/2", 2);
    sum("24/[6/2]", 8);
    sum("7/2*2", 6);

    Check.says("ATOM: a number (1 to 4 digits)");
    fault("y:0", NONE);
    fault("y:9999", NONE);
    fault("y:0000", NONE);
    fault("y:10000", 6);
    fault("y:1=1?123", NONE);
    sum("9999", 9999);
    sum("0009", 9);

    Check.says("a letter (t p b m d), [ SUM ]");
    for (int sign = 1; sign < 256; sign++) {
      boolean atom = sign >= '0' && sign <= '9' || "tpbmd".indexOf(sign) >= 0;
      boolean more = " [(!".indexOf(sign) >= 0;
      fault("y:" + (char) sign, atom ? NONE : more ? 3 : 2);
      boolean moreBehind = "+-*/=<>;".indexOf(sign) >= 0;
      fault("y:t" + (char) sign, sign == ' ' ? NONE : moreBehind ? 4 : 3);
    }
    fault("y:[]", 3);
    fault("y:[1", 4);
    fault("y:[1)", 4);
    fault("y:1]", 3);
    fault("y:[1=1]", 4);
    fault("y:[(1=1)]", 3);
    fault("y:[!1=1]", 3);
    fault("y:tt", 3);
    fault("y:2t", 3);
    fault("y:t2", 3);
    fault("y:2[t]", 3);
    fault("y:[t]2", 5);

    Check.says("a fifth digit itself, whatever stands ahead of it");
    fault("y:00000", 6);
    fault("y:99999", 6);
    fault("y:123456", 6);
    fault("y:1=00000?1", 8);
    fault("y:1+[12345", 9);
  }

  /** Seven of the same sign within one another go wrong at the seventh. */
  private static void sixWithin(String head, String open, String inside, String shut, String tail) {
    fault(head + open.repeat(5) + inside + shut.repeat(5) + tail, NONE);
    fault(head + open.repeat(6) + inside + shut.repeat(6) + tail, NONE);
    fault(head + open.repeat(7) + inside + shut.repeat(7) + tail, head.length() + 6);
    fault(head + open.repeat(6), head.length() + 6);
    fault(head + open.repeat(7), head.length() + 6);
  }

  private static void within() {
    Check.says("At most six of ( [ ! within one another");
    sixWithin("y:", "(", "t=1", ")", "?2");
    sixWithin("y:", "[", "t", "]", "");
    sixWithin("y:", "[", "t", "]", "=1?2");
    sixWithin("y:", "!", "t=1", "", "?2");
    sixWithin("y:t=", "[", "1", "]", "?2");
    sixWithin("y:t=1&", "(", "t=1", ")", "?2");
    sixWithin("y:t=1|", "!", "t=1", "", "?2");
    sixWithin("y:t=1?", "[", "t", "]", "");
    sixWithin("y:1;y:1+2*", "[", "t", "]", "");

    Check.says("a seventh of ( [ ! at it");
    fault("y:!(!(!(t=1)))?2", NONE);
    fault("y:!(!(!(!t=1)))?2", 8);
    fault("y:!(!(!((t=1))))?2", 8);
    fault("y:!(!(!([t]=1)))?2", 8);
    fault("y:!(!(!(t=[1])))?2", 10);
    fault("y:!(!(!(t=1&t=[1])))?2", 14);
    fault("y:!!!!!!t=[1]?2", 10);
    fault("y:(((((([t", 8);
    fault("y:(((([[t]]=1))))?2", NONE);
    fault("y:(((([[[t]]]=1))))?2", 8);

    Check.says("what stands beside one another is not within");
    fault("y:" + "!t=1&".repeat(7) + "t=1?2", NONE);
    fault("y:" + "(t=1)|".repeat(7) + "t=1?2", NONE);
    fault("y:" + "[t]+".repeat(7) + "1", NONE);
    fault("y:!!!!!!t=1&!!!!!!t=1?[[[[[[t]]]]]]", NONE);
    fault("y:[[[[[[t]]]]]]=[[[[[[t]]]]]]?[[[[[[t]]]]]]", NONE);
    fault("y:((((((t=1))))))|((((((t=1))))))?2", NONE);
    sum("[[[[[[7]]]]]]", 7);
    holds("!!!!!!t=1", true);
    holds("!!!!!t=1", false);
    holds("((((((t=1))))))", true);
  }

  private static boolean isDigit(String text, int at) {
    return at >= 0 && at < text.length() && Character.isDigit(text.charAt(at));
  }

  private static void blanks() {
    String text = "y:!(t=12|m<3)&[d]>1?p*100-b/[2+7];y:9999";
    Check.says("Blanks (32) may stand between all signs of both");
    for (int at = 0; at <= text.length(); at++) {
      if (!isDigit(text, at - 1) || !isDigit(text, at)) {
        fault(text.substring(0, at) + " " + text.substring(at), NONE);
        fault(text.substring(0, at) + "    " + text.substring(at), NONE);
      }
    }
    sum(" 1 + [ 2 * 3 ] ", 7);

    Check.says("not within numbers");
    for (int at = 1; at < text.length(); at++) {
      if (isDigit(text, at - 1) && isDigit(text, at)) {
        fault(text.substring(0, at) + " " + text.substring(at), at + 1);
      }
    }

    Check.says("32 alone is a blank");
    int[] others = {1, 9, 10, 13, 31, 33, 160, 255};
    for (int other : others) {
      if (other != '!') {
        fault("y:" + (char) other + "1", 2);
      }
      fault("y:1" + (char) other, 3);
    }
  }

  private static void faults() {
    String text = "y:!(t=12|m<3)&[d]>1?p*100-b/[2+7];y:9999";
    Check.says("the first byte at which no such TEXT can go on");
    for (int at = 0; at <= text.length(); at++) {
      fault(text.substring(0, at) + "#" + text.substring(at), at);
    }

    Check.says("the length, if it ends too early");
    boolean[] whole = new boolean[text.length() + 1];
    for (int length : new int[] {21, 23, 24, 25, 27, 33, 37, 38, 39, 40}) {
      whole[length] = true;
    }
    for (int length = 0; length <= text.length(); length++) {
      fault(text.substring(0, length), whole[length] ? NONE : length);
    }
    fault("   ", 3);
    fault("y:1;   ", 7);
    fault("y:" + "[".repeat(6) + " ".repeat(152), 160);
  }

  private static void bounds() {
    Check.says("Behind each sign numbers are within -1,000,000 .. 1,000,000");
    sum("1000*1000", BOUND);
    sum("1000*1000-1", BOUND - 1);
    sum("1000*1000+1", BOUND);
    sum("1000*1000+1-1", BOUND - 1);
    sum("1000*1000+9999-9999", BOUND - 9999);
    sum("999*1000+999", BOUND - 1);
    sum("999*1000+999+1", BOUND);
    sum("1001*1000", BOUND);
    sum("1001*1000-1000*1000", 0);
    sum("0-1000*1000", -BOUND);
    sum("0-1000*1000+1", 1 - BOUND);
    sum("0-1000*1000-1", -BOUND);
    sum("0-1000*1000-1+1", 1 - BOUND);
    sum("[0-1001]*1000", -BOUND);
    sum("[0-1001]*1000+1000*1000", 0);
    sum("[0-1000]*1000", -BOUND);
    sum("[0-1000*1000]+[0-1000*1000]+1000*1000", 0);
    sum("9999*9999", BOUND);
    sum("9999*9999/9999", 100);
    sum("9999*9999*9999*9999", BOUND);
    sum("[0-9999]*9999*9999*9999", -BOUND);
    sum("[0-1000*1000]*[0-1000*1000]", BOUND);
    sum("[0-1000*1000]/[0-1]", BOUND);
    sum("1000*1000/[0-1]", -BOUND);
    holds("1001*1000=1000*1000", true);
    holds("1001*1000>1000*1000", false);

    Check.says("POINTS: WORTHS together, each within, their sum not cut");
    HuntTable six = Check.hunt("p;p;p;p;p;p;b");
    Check.addWorth(six, "y:1000*1000");
    Check.due("points", six.points(0), 6 * BOUND);
    Check.addWorth(six, "y:0-1000*1000");
    Check.due("points", six.points(0), -6 * BOUND);
    Check.due("rich", six.rich(0, 1), -6 * BOUND);
  }

  private static void division() {
    Check.says("/ cuts towards 0");
    sum("7/2", 3);
    sum("[0-7]/2", -3);
    sum("7/[0-2]", -3);
    sum("[0-7]/[0-2]", 3);
    sum("1/2", 0);
    sum("[0-1]/2", 0);
    sum("[0-1]/9999", 0);
    sum("8/4", 2);

    Check.says("/ by 0 gives 0");
    sum("7/0", 0);
    sum("0/0", 0);
    sum("[0-7]/0", 0);
    sum("7/t", 0);
    sum("7/[d-d]+3", 3);
    sum("7/[1/2]", 0);
    holds("7/0=0", true);
  }

  private static void whichClause() {
    Check.says("WORTH: the SUM of the first CLAUSE whose CONDITION holds");
    worth("y:t=0?1;y:t=0?2;y:t=1?30", 31);
    worth("y:t=9?1;y:t=0?2;y:t<9?30", 32);
    worth("y:t<9?1;y:2", 2);

    Check.says("or has none");
    worth("y:5;y:t=0?1", 10);
    worth("y:t=0?1;y:5;y:7", 6);

    Check.says("0 without");
    worth("y:t=9?1", 0);
    worth("y:t=0?1", 1);
    worth("y:t=9?1;y:t=8?1", 0);
    worth("y:0", 0);
  }

  private static void letters() {
    Check.says("letters: t the TURN, p the PLACE, b the BAND, m the minute at which it comes, d how far it is");
    HuntTable t = Check.hunt("px1y2;px20y20;b;bs5;lk30");
    t.start(1, 99);
    String[] worths = {"y:t=1?t*1000+p*100+b", "y:t=1?m", "y:t=1?d", "y:t=0?t*1000+p*100+b"};
    int[] wants = {1001, 99 + 200 + 30 + 185, 37, 101};
    for (int i = 0; i < worths.length; i++) {
      Check.addWorth(t, worths[i]);
      Check.due("points by \"" + worths[i] + "\"", t.points(1), wants[i]);
    }

    Check.says("the gate for TURN 0");
    HuntTable gate = Check.hunt("px1y2;px20y20;b;bs5;lk30");
    gate.start(1, 99);
    Check.addWorth(gate, "y:t=0?d");
    Check.due("d of band 0", gate.points(0), 3);
    Check.due("d of band 1", gate.points(1), 40);
    Check.addWorth(gate, "y:t=0?m");
    Check.due("m of band 0", gate.points(0), 3);
    Check.due("m of band 1", gate.points(1), 299);
  }
}
