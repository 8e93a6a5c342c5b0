/** The text of a hunt: for each sentence that names an edge a test of its own. */
public final class HuntTextEdgesTest {
  private static final int NONE = -1;

  public static void main(String[] args) {
    clauses();
    kinds();
    items();
    numbers();
    boundsOfNumbers();
    blanks();
    faults();
    Check.finish();
  }

  private static void fault(String text, int want) {
    HuntTable t = new HuntTable();
    Check.put(t, text);
    Check.due("fault(0) of \"" + text + "\"", t.fault(0), want);
    Check.due("text(0) of \"" + text + "\" is refused", t.text(0) == NONE, want != NONE);
    Check.due("the bytes then", t.count(3), want == NONE ? 0 : text.length());
  }

  private static void counts(String text, int places, int bands) {
    HuntTable t = Check.hunt(text);
    Check.due("places of \"" + text + "\"", t.count(0), places);
    Check.due("bands of \"" + text + "\"", t.count(1), bands);
  }

  private static void clauses() {
    Check.says("CLAUSES with ; between");
    fault("p;p;b", NONE);
    fault(";p;p;b", 0);
    fault("p;;p;b", 2);
    fault("p;p;b;", 6);
    fault("p;p;b;;", 6);
    fault("pp;b", 1);
    fault("p;pb", 3);
    fault("p;p;bl", 5);
    fault("p,p;b", 1);
    fault("p:p;b", 1);
  }

  private static void kinds() {
    Check.says("p (a PLACE; 2 .. 6)");
    fault("b", 1);
    fault("b;p", 3);
    counts("b;p;p", 2, 1);
    counts("b;p;p;p;p;p;p", 6, 1);
    fault("b;p;p;p;p;p;p;p", 14);

    Check.says("b (a BAND; 1 .. 6)");
    fault("p;p", 3);
    fault("p;p;p;p;p;p", 11);
    counts("p;p;b", 2, 1);
    counts("p;p;b;b;b;b;b;b", 2, 6);
    fault("p;p;b;b;b;b;b;b;b", 16);

    Check.says("l (the LAW; one at most)");
    counts("p;p;b", 2, 1);
    counts("p;p;b;l", 2, 1);
    fault("p;p;b;l;l", 8);
    fault("l;l", 2);
    fault("lf2;p;p;b;lk2", 10);
    fault("l", 1);

    Check.says("p, b, l and nothing else");
    for (int sign = 1; sign < 256; sign++) {
      boolean can = sign == 'p' || sign == 'b' || sign == 'l' || sign == ' ';
      fault("p;p;b;" + (char) sign, can ? sign == ' ' ? 7 : NONE : 6);
    }

    Check.says("in any order");
    HuntTable t = Check.hunt("bs2;px7;lk9;bs3;px8");
    Check.due("the first PLACE", t.place(0, 0), 7);
    Check.due("the second PLACE", t.place(1, 0), 8);
    Check.due("the first BAND", t.band(0, 0), 2);
    Check.due("the second BAND", t.band(1, 0), 3);
    Check.due("the LAW", t.count(5), 9);
    counts("l;b;p;p", 2, 1);
    counts("p;l;p;b", 2, 1);
    counts("p;b;l;p", 2, 1);
  }

  private static void items() {
    Check.says("then ITEMS, none or more");
    fault("p;p;b;l", NONE);
    fault("px1;p;b;lf1", NONE);
    fault("px1y1;p;b;lf1k1", NONE);
    fault("py1x1;p;b;lk1f1", NONE);

    Check.says("a letter, each once at most in a CLAUSE");
    fault("px1x1;p;b", 3);
    fault("py1y1;p;b", 3);
    fault("px1y1x1;p;b", 5);
    fault("px1y1y1;p;b", 5);
    fault("p;p;bs1s1", 7);
    fault("p;p;b;lf1f1", 9);
    fault("p;p;b;lk1k1", 9);
    fault("p;p;b;lf1k1f1", 11);
    fault("p;p;b;lf1k1k1", 11);
    fault("px1;px1;bs1;bs1", NONE);

    Check.says("of p: x, y; of b: s; of l: f, k");
    for (int sign = 1; sign < 256; sign++) {
      char letter = (char) sign;
      if (letter != ' ' && letter != ';') {
        fault("p;b;p" + letter + "1", letter == 'x' || letter == 'y' ? NONE : 5);
        fault("p;p;b" + letter + "1", letter == 's' ? NONE : 5);
        fault("p;p;b;l" + letter + "1", letter == 'f' || letter == 'k' ? NONE : 7);
      }
    }
  }

  private static void numbers() {
    Check.says("and a number (one or two digits)");
    fault("p;p;bs", 6);
    fault("p;p;bs;b", 6);
    fault("p;p;bs-1", 6);
    fault("p;p;bs1", NONE);
    fault("p;p;bs01", NONE);
    fault("p;p;bs001", 8);
    fault("px;p;b", 2);
    fault("pxy1;p;b", 2);
    fault("px1y;p;b", 4);
    fault("px0y00;p;b", NONE);
    fault("px0y000;p;b", 6);
    fault("p;p;b;lf", 8);
    fault("p;p;b;lf0k", 10);
    for (int sign = 1; sign < 256; sign++) {
      boolean digit = sign >= '0' && sign <= '9';
      fault("p;b;py" + (char) sign, digit ? NONE : sign == ' ' ? 7 : 6);
    }

    Check.says("a number out of bounds is wrong at its last digit");
    fault("px21;p;b", 3);
    fault("px21", 3);
    fault("px21?", 3);
    fault("p;p;bs6", 6);
    fault("p;p;bs06", 7);
    fault("p;p;bs60", 7);
    fault("p;p;bs0", 6);
    fault("p;p;bs00", 7);
    fault("p;p;b;lf10", 9);
    fault("p;p;b;lk31", 9);

    Check.says("a third digit itself, whatever stands ahead of it");
    for (int value = 0; value < 100; value++) {
      String digits = "" + value / 10 + value % 10;
      fault("px" + digits + "0;p;b", 4);
      fault("py" + digits + "9", 4);
      fault("bs" + digits + "1", 4);
      fault("lf" + digits + "11", 4);
      fault("lk" + digits + "0", 4);
    }
  }

  /** All numbers of one and two digits behind a letter: those from least to most are no fault. */
  private static void bounds(String head, int least, int most) {
    for (int value = 0; value < 100; value++) {
      boolean within = value >= least && value <= most;
      int at = head.length();
      if (value < 10) {
        fault(head + value, within ? NONE : at);
        fault(head + value + ";b", within ? NONE : at);
      }
      String digits = "" + value / 10 + value % 10;
      fault(head + digits, within ? NONE : at + 1);
      fault(head + digits + " ;b", within ? NONE : at + 1);
    }
  }

  private static void boundsOfNumbers() {
    Check.says("x, y where it lies (0 .. 20)");
    bounds("p;b;px", 0, 20);
    bounds("p;b;py", 0, 20);
    bounds("p;b;px20y", 0, 20);
    HuntTable far = Check.hunt("px20y20;px0y0;b");
    Check.due("the most x", far.place(0, 0), 20);
    Check.due("the most y", far.place(0, 1), 20);
    Check.due("the least x", far.place(1, 0), 0);
    Check.due("the least y", far.place(1, 1), 0);

    Check.says("0 without");
    HuntTable bare = Check.hunt("px3;py4;p;b");
    int[][] lies = {{3, 0}, {0, 4}, {0, 0}};
    for (int place = 0; place < 3; place++) {
      Check.due("x of " + place, bare.place(place, 0), lies[place][0]);
      Check.due("y of " + place, bare.place(place, 1), lies[place][1]);
    }
    Check.put(bare, "p;p;p;b");
    bare.text(0);
    Check.due("x is not that of another hunt", bare.place(0, 0), 0);
    Check.due("y is not that of another hunt", bare.place(1, 1), 0);

    Check.says("s SLOW (1 .. 5; 1)");
    bounds("p;p;bs", 1, 5);
    HuntTable slow = Check.hunt("p;p;bs5;b;bs1");
    Check.due("the most", slow.band(0, 0), 5);
    Check.due("without", slow.band(1, 0), 1);
    Check.due("the least", slow.band(2, 0), 1);
    Check.put(slow, "p;p;b");
    slow.text(0);
    Check.due("not that of another hunt", slow.band(0, 0), 1);

    Check.says("f how often one may FOLLOW another (0 .. 9; 1)");
    bounds("p;b;p;lf", 0, 9);
    Check.due("the least", Check.hunt("p;p;b;lf0").count(4), 0);
    Check.due("the most", Check.hunt("p;p;b;lf9").count(4), 9);
    Check.due("without f", Check.hunt("p;p;b;lk7").count(4), 1);
    Check.due("without l", Check.hunt("p;p;b").count(4), 1);

    Check.says("k how many minutes one STAYS (0 .. 30; 5)");
    bounds("p;b;p;lk", 0, 30);
    Check.due("the least", Check.hunt("p;p;b;lk0").count(5), 0);
    Check.due("the most", Check.hunt("p;p;b;lk30").count(5), 30);
    Check.due("without k", Check.hunt("p;p;b;lf7").count(5), 5);
    Check.due("without l", Check.hunt("p;p;b").count(5), 5);
    HuntTable law = Check.hunt("p;p;b;lf7k7");
    Check.put(law, "p;p;b");
    law.text(0);
    Check.due("f is not that of another hunt", law.count(4), 1);
    Check.due("k is not that of another hunt", law.count(5), 5);
  }

  private static boolean isDigit(String text, int at) {
    return at >= 0 && at < text.length() && Character.isDigit(text.charAt(at));
  }

  private static void blanks() {
    String text = "px12y3;py20;bs2;b;lf0k30";
    Check.says("Blanks (32) may stand between all signs");
    for (int at = 0; at <= text.length(); at++) {
      if (!isDigit(text, at - 1) || !isDigit(text, at)) {
        fault(text.substring(0, at) + " " + text.substring(at), NONE);
        fault(text.substring(0, at) + "     " + text.substring(at), NONE);
      }
    }
    fault("p;p;b" + " ".repeat(155), NONE);
    fault(" ".repeat(155) + "p;p;b", NONE);
    HuntTable same = Check.hunt(" p x 12 y 3 ; p y 20 ; b s 2 ; b ; l f 0 k 30 ");
    Check.due("x", same.place(0, 0), 12);
    Check.due("y", same.place(1, 1), 20);
    Check.due("SLOW", same.band(0, 0), 2);
    Check.due("STAY", same.count(5), 30);

    Check.says("not within numbers");
    for (int at = 1; at < text.length(); at++) {
      if (isDigit(text, at - 1) && isDigit(text, at)) {
        fault(text.substring(0, at) + " " + text.substring(at), at + 1);
        fault(text.substring(0, at) + "   " + text.substring(at), at + 3);
      }
    }

    Check.says("32 alone is a blank");
    int[] others = {1, 9, 10, 11, 12, 13, 28, 31, 33, 127, 133, 160, 255};
    for (int other : others) {
      fault("p;" + (char) other + "p;b", 2);
      fault("p;p;b" + (char) other, 5);
    }
  }

  private static void faults() {
    String text = "px12y3;py20;bs2;b;lf0k30";
    Check.says("FAULT: the first byte at which no such TEXT can go on");
    for (int at = 0; at <= text.length(); at++) {
      fault(text.substring(0, at) + "#" + text.substring(at), at);
      fault(text.substring(0, at) + "##?p;", at);
    }
    fault("  #", 2);
    fault("p  #", 3);

    Check.says("the length, if it ends too early");
    // The second PLACE and a BAND are there from 13 on; but a letter wants its number, a ; its CLAUSE.
    for (int length = 0; length <= text.length(); length++) {
      boolean whole = length >= 13 && ";sfk".indexOf(text.charAt(length - 1)) < 0;
      fault(text.substring(0, length), whole ? NONE : length);
    }
    fault("", 0);
    fault("   ", 3);
    fault("p;p;b;   ", 9);
    fault("p;p;b;" + " ".repeat(154), 160);

    Check.says("with fewer than two PLACES");
    fault("b;l", 3);
    fault("p;b;b;b;b;b;b;l", 15);
    fault("p;b  ", 5);

    Check.says("or without a BAND");
    fault("p;p;p;l", 7);
    fault("p;p  ", 5);

    Check.says("a letter that was there, at it");
    fault("px1 x2;p;b", 4);
    fault("px1 y2 x", 7);

    Check.says("a seventh p, a seventh b, a second l at it");
    fault("p;p;p;p;p;p;b;b;b;b;b;b;l", NONE);
    fault("p;p;p;p;p;p;b;b;b;b;b;b;l;p", 26);
    fault("p;p;p;p;p;p;b;b;b;b;b;b;l;b", 26);
    fault("p;p;p;p;p;p;b;b;b;b;b;b;l;l", 26);
    fault("p;p;p;p;p;p;b;b;b;b;b;b;l; p", 27);
    fault("p;p;p;p;p;p;b;b;b;b;b;b;l;", 26);
    fault("px1;px2;px3;px4;px5;px6;px7", 24);
  }
}
