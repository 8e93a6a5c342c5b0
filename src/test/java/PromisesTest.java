import java.util.NoSuchElementException;

/** Promises 1 to 37, one after another, with answers worked out by hand. */
public final class PromisesTest {
  private static final int NONE = -1;
  private static final int HIDDEN = -1000000;

  /** A rectangle: 0 and 1 lie 3 apart, 1 and 2 lie 4 apart, 2 and 3 lie 3 apart, 3 and 0 lie 4 apart. */
  private static final String RECTANGLE = "px1y1;px4y1;px4y5;px1y5;b;bs2;b;lf1k3";

  public static void main(String[] args) {
    newObject();
    feed();
    end();
    faultOfHunt();
    faultOfWorth();
    text();
    place();
    band();
    order();
    start();
    worth();
    undo();
    at();
    follows();
    lawful();
    crowd();
    even();
    slips();
    well();
    sight();
    points();
    worthsReckoned();
    comesAndHome();
    clashes();
    starts();
    soonest();
    rich();
    find();
    fits();
    tables();
    wrong();
    helpers();
    pieces();
    drawn();
    imageBackAgain();
    count();
    Check.finish();
  }

  private static void due(String call, long got, long want) {
    Check.due(call, got, want);
  }

  private static void due(String call, boolean got, boolean want) {
    Check.due(call, got, want);
  }

  private static HuntTable rectangle() {
    return Check.hunt(RECTANGLE);
  }

  private static void newObject() {
    HuntTable t = new HuntTable();
    int[] counts = {0, 0, 0, 0, 0, 0, NONE, 0, 0};
    for (int i = 0; i < counts.length; i++) {
      due("1: count(" + i + ")", t.count(i), counts[i]);
    }
    due("1: band", t.band(0, 0), NONE);
    due("1: order", t.order(0, 0), NONE);
    due("1: start", t.start(0, 0), false);
    due("1: worth(0)", t.worth(0), false);
    due("1: worth(NONE)", t.worth(NONE), true);
    due("1: undo", t.undo(), NONE);
    due("1: at", t.at(0, 0), NONE);
    due("1: follows", t.follows(0, 1), NONE);
    due("1: lawful", t.lawful(), NONE);
    due("1: crowd", t.crowd(0), NONE);
    due("1: even needs no hunt", t.even(2, 1, 1), 0);
    due("1: slips", t.slips(), NONE);
    due("1: well", t.well(0, 0), NONE);
    due("1: sight", t.sight(), NONE);
    due("1: points", t.points(0), HIDDEN);
    due("1: comes", t.comes(0, 0), NONE);
    due("1: home", t.home(0), NONE);
    due("1: clashes", t.clashes(1), HIDDEN);
    due("1: starts", t.starts(0, 0), NONE);
    due("1: soonest", t.soonest(0, 0), NONE);
    due("1: rich", t.rich(0, 0), HIDDEN);
    due("1: find", t.find(0, 0, 0, true), NONE);
    due("1: fits", t.fits(0), NONE);
    due("1: tables", t.tables(0, 0), HIDDEN);
    due("1: wrong", t.wrong(0, 0, 0, 0), NONE);
    due("1: helpers", t.helpers(0), NONE);
    due("1: pieces needs no hunt", t.pieces(1, 1, 0), 1);
    due("1: drawn", t.drawn(0), NONE);
    due("1: image", t.image(), NONE);
    due("1: back", t.back(), NONE);
    due("1: again", t.again(), NONE);
    placeThrows(t, 0, 0);
  }

  private static void feed() {
    HuntTable t = new HuntTable();
    due("2: feed", t.feed(0x703b703b, 0, 0, 0, 0x00620000), 5);
    due("2: the highest byte comes first", t.fault(0), NONE);
    due("2: feed of nothing", t.feed(0, 0, 0, 0, 0), 5);
    due("2: feed of bytes above 127", t.feed(-1, 0x80000000, 0x00800000, 0x8000, 0x80), 13);
    due("2: a byte of 255 goes wrong", t.fault(0), 5);
    t.end(0);
    for (int i = 1; i <= 8; i++) {
      due("2: feed of twenty", t.feed(0x20202020, 0x20202020, 0x20202020, 0x20202020, 0x20202020), 20 * i);
    }
    due("2: feed beyond 160", t.feed(0, 0, 0, 0, 1), NONE);
    due("2: nothing more is no more", t.feed(0, 0, 0, 0, 0), 160);
    t.end(159);
    due("2: feed of two to 161", t.feed(0x20000020, 0, 0, 0, 0), NONE);
    due("2: what is refused changes nothing", t.count(3), 159);
    due("2: bytes of all five are counted", t.feed(0x20, 0x20, 0, 0, 0), NONE);
    due("2: bytes of all five are counted", t.feed(0, 0x20, 0x20, 0, 0), NONE);
    due("2: bytes of all five are counted", t.feed(0, 0, 0x20, 0x20, 0), NONE);
    due("2: bytes of all five are counted", t.feed(0, 0, 0, 0x20, 0x20), NONE);
    due("2: feed of one to 160", t.feed(0, 0, 0x2000, 0, 0), 160);
  }

  private static void end() {
    HuntTable t = new HuntTable();
    due("3: end(0) of none", t.end(0), true);
    due("3: end(1) of none", t.end(1), false);
    Check.put(t, "p;p;b;;");
    due("3: end(-1)", t.end(-1), false);
    due("3: end(8)", t.end(8), false);
    due("3: end(MAX)", t.end(Integer.MAX_VALUE), false);
    due("3: end(7)", t.end(7), true);
    due("3: a fault ahead of it", t.fault(0), 6);
    due("3: end(5)", t.end(5), true);
    due("3: none then", t.fault(0), NONE);
    due("3: bytes", t.count(3), 5);
    due("3: bytes are gone", t.end(6), false);
  }

  private static void huntFault(String text, int want) {
    HuntTable t = new HuntTable();
    Check.put(t, text);
    due("4: fault(0) of \"" + text + "\"", t.fault(0), want);
    due("4: the tape stays", t.count(3), text.length());
    int bands = t.text(0);
    due("5: text(0) of \"" + text + "\"", bands == NONE, want != NONE);
    due("5: the tape is empty then, or as it was", t.count(3), want == NONE ? 0 : text.length());
    due("5: places", t.count(0) == 0, want != NONE);
  }

  private static void faultOfHunt() {
    HuntTable t = new HuntTable();
    due("4: fault(-1)", t.fault(-1), -2);
    due("4: fault(2)", t.fault(2), -2);
    huntFault("", 0);
    huntFault("   ", 3);
    huntFault("p;p;b", NONE);
    huntFault("b;p;l;p", NONE);
    huntFault(" p x 1 y 20 ; p ; b s 5 ; l k 30 f 9 ", NONE);
    huntFault("px20y20;py0x00;bs01;lf00k05", NONE);
    huntFault("p;p", 3);
    huntFault("p;b  ", 5);
    huntFault("p;p;b;", 6);
    huntFault("p;p;;b", 4);
    huntFault(";p;p;b", 0);
    huntFault("q", 0);
    huntFault("P;p;b", 0);
    huntFault("pp;b", 1);
    huntFault("p p;b", 2);
    huntFault("ps1;p;b", 1);
    huntFault("p;p;bx1", 5);
    huntFault("p;p;b;ls1", 7);
    huntFault("px;p;b", 2);
    huntFault("px ;p;b", 3);
    huntFault("p;p;bs", 6);
    huntFault("p;p;b;lk", 8);
    huntFault("px1 2;p;b", 4);
    huntFault("px21;p;b", 3);
    huntFault("py21", 3);
    huntFault("px100;p;b", 4);
    huntFault("px000;p;b", 4);
    huntFault("px999;p;b", 4);
    huntFault("px9999;p;b", 4);
    huntFault("bs0;p;p", 2);
    huntFault("bs00;p;p", 3);
    huntFault("bs6;p;p", 2);
    huntFault("bs60;p;p", 3);
    huntFault("bs600;p;p", 4);
    huntFault("bs6", 2);
    huntFault("lf10;p;p;b", 3);
    huntFault("lk31;p;p;b", 3);
    huntFault("px1x2;p;b", 3);
    huntFault("px1y2x3;p;b", 5);
    huntFault("bs1s1;p;p", 3);
    huntFault("lf1k1f1;p;p;b", 5);
    huntFault("l;p;p;l;b", 6);
    huntFault("p;p;p;p;p;p;b", NONE);
    huntFault("p;p;p;p;p;p;p", 12);
    huntFault("p;p;p;p;p;p;b;px1", 14);
    huntFault("p;b;b;b;b;b;b;p", NONE);
    huntFault("p;b;b;b;b;b;b;b", 14);
    huntFault("p;p;b.", 5);
    huntFault("p;p;b" + (char) 1, 5);
    huntFault("p;p;b" + (char) 160, 5);
    huntFault("p;p;b;" + " ".repeat(154), 160);
    huntFault("p;p;b" + " ".repeat(155), NONE);
  }

  private static void worthFault(String text, int want) {
    HuntTable t = new HuntTable();
    Check.put(t, text);
    due("4: fault(1) of \"" + text + "\"", t.fault(1), want);
    due("5: text(1) of \"" + text + "\"", t.text(1), want == NONE ? 0 : NONE);
    due("5: worths", t.count(2), want == NONE ? 1 : 0);
    due("5: the tape is empty then, or as it was", t.count(3), want == NONE ? 0 : text.length());
  }

  private static void faultOfWorth() {
    worthFault("", 0);
    worthFault("y", 1);
    worthFault("y:", 2);
    worthFault("y:1", NONE);
    worthFault(" y : 1 ", NONE);
    worthFault("x:1", 0);
    worthFault("y1", 1);
    worthFault("y:x", 2);
    worthFault("y:y", 2);
    worthFault("y:0000", NONE);
    worthFault("y:00000", 6);
    worthFault("y:99999", 6);
    worthFault("y:1 2", 4);
    worthFault("y:t2", 3);
    worthFault("y:2t", 3);
    worthFault("y:tp", 3);
    worthFault("y:1;", 4);
    worthFault("y:1;y", 5);
    worthFault("y:1;;y:1", 4);
    worthFault("y:1;y:2;y:3", NONE);
    worthFault("y:-1", 2);
    worthFault("y:1+", 4);
    worthFault("y:1+*2", 4);
    worthFault("y:1?2", 3);
    worthFault("y:1&2", 3);
    worthFault("y:1=2", 5);
    worthFault("y:1=2;", 5);
    worthFault("y:1=2?", 6);
    worthFault("y:1=2?3", NONE);
    worthFault("y:1=2?3?4", 7);
    worthFault("y:1=2?3=4", 7);
    worthFault("y:1=2=3?4", 5);
    worthFault("y:1=2|3?4", 7);
    worthFault("y:1=2&3<4|5>6?7", NONE);
    worthFault("y:1=2&!3<4|(5>6)?7", NONE);
    worthFault("y:(1)", 4);
    worthFault("y:(1=1)", 7);
    worthFault("y:(1=1)+1", 7);
    worthFault("y:(1=1?2", 6);
    worthFault("y:(1=1)?2", NONE);
    worthFault("y:1=(2)", 4);
    worthFault("y:1+(2)", 4);
    worthFault("y:[1", 4);
    worthFault("y:[1=1]", 4);
    worthFault("y:[1)", 4);
    worthFault("y:[]", 3);
    worthFault("y:[1]", NONE);
    worthFault("y:[!1=1]", 3);
    worthFault("y:!1", 4);
    worthFault("y:!1;", 4);
    worthFault("y:!1=1", 6);
    worthFault("y:1=2?!3", 6);
    worthFault("y:1=2?(3)", 6);
    worthFault("y:[[[[[[t]]]]]]", NONE);
    worthFault("y:[[[[[[[t]]]]]]]", 8);
    worthFault("y:t=[[[[[[p]]]]]]?1", NONE);
    worthFault("y:t=[[[[[[[p]]]]]]]?1", 10);
    worthFault("y:t=1&[[[[[[p]]]]]]=1?2", NONE);
    worthFault("y:t=1&[[[[[[[p]]]]]]]=1?2", 12);
    worthFault("y:t=1|!!!!!!p=1?2", NONE);
    worthFault("y:t=1|((((((p=1))))))?2", NONE);
    worthFault("y:t=1|(((((((p=1)))))))?2", 12);
    worthFault("y:!!!!!!t=1?2", NONE);
    worthFault("y:!!!!!!!t=1?2", 8);
    worthFault("y:!!!!!!(t=1)?2", 8);
    worthFault("y:!!!!!![t]=1?2", 8);
    worthFault("y:!(!(!(t=1)))?2", NONE);
    worthFault("y:!(!(!([t]=1)))?2", 8);
    worthFault("y:((((((t=1&!t=2", 12);
    worthFault("y:(((((t=1&!t=2)|[t]=[[p]]", 26);
    worthFault("y:(((((t=1&!t=2|[t]=[[[p]]]", 21);
    worthFault("y:!t=1&!t=2&!t=3&!t=4&!t=5&!t=6&!t=7?[t]+[t]+[t]+[t]+[t]+[t]+[t]", NONE);
    worthFault("y:[[[[[[t]]]]]]=1?[[[[[[t]]]]]]", NONE);
    worthFault("y:!!!!!!t=1?[[[[[[t]]]]]]", NONE);
    worthFault("y:" + "1+".repeat(78) + "22", NONE);
  }

  private static void text() {
    HuntTable t = rectangle();
    t.order(0, 3210);
    t.start(1, 9);
    t.find(0, 0, 0, true);
    t.image();
    for (int i = 0; i < 4; i++) {
      due("5: a worth's number", Check.addWorth(t, "y:" + i), i);
    }
    t.worth(2);
    Check.put(t, "y:4");
    due("5: a fifth worth", t.text(1), NONE);
    due("5: its text stays", t.count(3), 3);
    due("5: no such sort", t.text(2), NONE);
    due("5: no such sort", t.text(-1), NONE);
    due("5: a worth is no hunt", t.text(0), NONE);
    due("5: what is refused changes nothing", t.band(0, 1), 3210);
    due("5: what is refused changes nothing", t.count(7), 1);
    Check.put(t, "p;p;p;b;b");
    due("5: how many bands", t.text(0), 2);
    due("5: places", t.count(0), 3);
    due("5: the order is that of the numbers", t.band(0, 1), 12);
    due("5: STARTS are gone", t.band(1, 2), 0);
    due("5: FOUND is gone", t.count(7), 0);
    due("5: FOUND is gone", t.fits(0), 6);
    due("5: the IMAGE is gone", t.back(), NONE);
    due("5: the IMAGE is gone", t.again(), NONE);
    due("5: ACTS are gone", t.undo(), NONE);
    due("5: the law is not the one ahead", t.count(5), 5);
    due("5: WORTHS stay", t.count(2), 4);
    due("5: the WORTH that holds stays", t.count(6), 2);
    due("5: it is worth as much", t.points(0), 6);
  }

  private static void placeThrows(HuntTable t, int place, int what) {
    boolean thrown = false;
    try {
      t.place(place, what);
    } catch (NoSuchElementException e) {
      thrown = true;
    }
    due("6: place(" + place + ", " + what + ") throws", thrown, true);
  }

  private static void place() {
    HuntTable t = Check.hunt("p;b;py7x20;px3;py4");
    int[][] lies = {{0, 0}, {20, 7}, {3, 0}, {0, 4}};
    for (int i = 0; i < lies.length; i++) {
      due("6: x", t.place(i, 0), lies[i][0]);
      due("6: y", t.place(i, 1), lies[i][1]);
    }
    placeThrows(t, 4, 0);
    placeThrows(t, -1, 0);
    placeThrows(t, 0, 2);
    placeThrows(t, 0, -1);
    placeThrows(t, Integer.MAX_VALUE, Integer.MIN_VALUE);
  }

  private static void band() {
    HuntTable t = Check.hunt("p;b;p;bs5;p;bs1;p;b;p;bs4;p;b");
    int[] slows = {1, 5, 1, 1, 4, 1};
    int[] orders = {12345, 123450, 234501, 345012, 450123, 501234};
    t.start(3, 99);
    for (int i = 0; i < 6; i++) {
      due("7: SLOW", t.band(i, 0), slows[i]);
      due("7: ORDER", t.band(i, 1), orders[i]);
      due("7: START", t.band(i, 2), i == 3 ? 99 : 0);
    }
    due("7: band(6, 0)", t.band(6, 0), NONE);
    due("7: band(-1, 0)", t.band(-1, 0), NONE);
    due("7: band(0, 3)", t.band(0, 3), NONE);
    due("7: band(0, -1)", t.band(0, -1), NONE);
    HuntTable more = Check.hunt("p;p;b;b;b;b");
    due("7: more bands than places", more.band(3, 1), 10);
  }

  private static void order() {
    HuntTable t = rectangle();
    due("8: order", t.order(1, 321), 1);
    due("8: it is told", t.band(1, 1), 321);
    due("8: the others stay", t.band(0, 1), 123);
    due("8: alike is an ACT too", t.order(1, 321), 2);
    int[] refused = {3211, 124, 1233, 12, 10123, -123, 30124, 0, Integer.MAX_VALUE, Integer.MIN_VALUE};
    for (int order : refused) {
      due("8: order(0, " + order + ")", t.order(0, order), NONE);
    }
    due("8: order(3, ..)", t.order(3, 123), NONE);
    due("8: order(-1, ..)", t.order(-1, 123), NONE);
    due("8: what is refused changes nothing", t.band(0, 1), 123);
    due("8: what is refused is no ACT", t.count(8), 2);
  }

  private static void start() {
    HuntTable t = rectangle();
    due("9: start(0, 99)", t.start(0, 99), true);
    due("9: START", t.band(0, 2), 99);
    due("9: start(0, 100)", t.start(0, 100), false);
    due("9: start(0, -1)", t.start(0, -1), false);
    due("9: start(3, 0)", t.start(3, 0), false);
    due("9: start(-1, 0)", t.start(-1, 0), false);
    due("9: what is refused changes nothing", t.band(0, 2), 99);
    due("9: it is no ACT", t.count(8), 0);
    due("9: start(0, 0)", t.start(0, 0), true);
    due("9: START", t.band(0, 2), 0);
  }

  private static void worth() {
    HuntTable t = rectangle();
    Check.put(t, "y:1");
    t.text(1);
    due("10: none at first", t.count(6), NONE);
    due("10: none at first", t.points(0), 0);
    due("10: worth(1)", t.worth(1), false);
    due("10: worth(-2)", t.worth(-2), false);
    due("10: worth(0)", t.worth(0), true);
    due("10: it holds", t.points(0), 4);
    Check.addWorth(t, "y:2");
    due("10: the other holds", t.points(0), 8);
    due("10: worth(2)", t.worth(2), false);
    due("10: what is refused changes nothing", t.count(6), 1);
    due("10: worth(NONE)", t.worth(NONE), true);
    due("10: none holds", t.points(0), 0);
  }

  private static void undo() {
    HuntTable t = Check.hunt("p;p;p;b;b");
    int[] orders = {12, 21, 102, 120, 201, 210};
    due("11: undo of none", t.undo(), NONE);
    for (int i = 1; i <= 45; i++) {
      due("11: ACTS", t.order(0, orders[i % 6]), Math.min(i, 40));
    }
    due("11: ACTS", t.drawn(5), 40);
    due("11: undone", t.undo(), 39);
    due("11: orders as ahead of drawn", t.band(0, 1), orders[45 % 6]);
    due("11: orders as ahead of drawn", t.band(1, 1), 120);
    for (int i = 38; i >= 0; i--) {
      due("11: undone", t.undo(), i);
      due("11: the order ahead", t.band(0, 1), orders[(i + 6) % 6]);
    }
    due("11: no more", t.undo(), NONE);
    t.start(0, 7);
    t.order(1, 12);
    t.start(0, 8);
    due("11: undone", t.undo(), 0);
    due("11: STARTS stay", t.band(0, 2), 8);
  }

  private static void at() {
    HuntTable t = rectangle();
    t.order(1, 3120);
    int[] row = {3, 1, 2, 0};
    for (int turn = 0; turn < 4; turn++) {
      due("12: told", t.at(1, turn), row[turn]);
      due("12: turned", t.at(2, turn), (turn + 2) % 4);
    }
    due("12: at(0, 4)", t.at(0, 4), NONE);
    due("12: at(0, -1)", t.at(0, -1), NONE);
    due("12: at(3, 0)", t.at(3, 0), NONE);
    due("12: at(-1, 0)", t.at(-1, 0), NONE);
  }

  private static void follows() {
    HuntTable t = rectangle();
    due("13: follows(0, 1)", t.follows(0, 1), 3);
    due("13: follows(1, 0)", t.follows(1, 0), 0);
    due("13: follows(1, 2)", t.follows(1, 2), 3);
    due("13: follows(2, 0)", t.follows(2, 0), 0);
    due("13: alike", t.follows(1, 1), NONE);
    due("13: follows(0, 3)", t.follows(0, 3), NONE);
    due("13: follows(-1, 0)", t.follows(-1, 0), NONE);
    t.order(0, 2130);
    due("13: in turns 2 and 3", t.follows(0, 2), 2);
    due("13: in none", t.follows(2, 0), 0);
  }

  private static void lawful() {
    due("14: follows too often", rectangle().lawful(), 0);
    due("14: as often as it may", Check.hunt(RECTANGLE.replace("f1", "f3")).lawful(), 1);
    due("14: once too often", Check.hunt(RECTANGLE.replace("f1", "f2")).lawful(), 0);
    due("14: one alone", Check.hunt("p;p;b;lf0").lawful(), 1);
    due("14: two meet", Check.hunt("p;p;b;b;b;lf9").lawful(), 0);
    HuntTable t = Check.hunt("p;p;b;b;lf0");
    due("14: 1 after 1, though it may not", t.lawful(), 0);
    due("14: once by what holds without f", Check.hunt("p;p;b;b").lawful(), 1);
    HuntTable four = Check.hunt("p;p;p;p;b;b;b;b");
    int[] even = {132, 1203, 2310, 3021};
    for (int i = 0; i < 4; i++) {
      four.order(i, even[i]);
    }
    due("14: the table by rule", four.lawful(), 1);
  }

  private static void crowd() {
    HuntTable t = rectangle();
    due("15: none meet", t.crowd(0), NONE);
    due("15: none meet", t.crowd(2), NONE);
    t.order(2, 2031);
    due("15: turn", t.crowd(0), 2);
    t.order(2, 3201);
    due("15: turn", t.crowd(0), 1);
    due("15: place", t.crowd(1), 2);
    due("15: who", t.crowd(2), 6);
    due("15: crowd(3)", t.crowd(3), NONE);
    due("15: crowd(-1)", t.crowd(-1), NONE);
    HuntTable two = Check.hunt("p;p;b;b;b;b");
    due("15: turn", two.crowd(0), 0);
    due("15: the lowest place", two.crowd(1), 0);
    due("15: who is there", two.crowd(2), 5);
  }

  private static void even() {
    HuntTable t = new HuntTable();
    int[] six = {0, 1, 5, 2, 4, 3};
    for (int turn = 0; turn < 6; turn++) {
      for (int band = 0; band < 6; band++) {
        due("16: of six", t.even(6, band, turn), (band + six[turn]) % 6);
      }
    }
    due("16: of two", t.even(2, 0, 1), 1);
    due("16: of 400", t.even(400, 399, 398), (399 + 201) % 400);
    int[][] refused = {{0, 0, 0}, {1, 0, 0}, {3, 0, 0}, {-2, 0, 0}, {402, 0, 0}, {399, 0, 0}, {4, 4, 0}, {4, 0, 4}, {4, -1, 0},
        {4, 0, -1}, {Integer.MIN_VALUE, 0, 0}, {Integer.MAX_VALUE, 0, 0}};
    for (int[] args : refused) {
      due("16: even of " + args[0] + ", " + args[1] + ", " + args[2], t.even(args[0], args[1], args[2]), NONE);
    }
  }

  private static void slips() {
    HuntTable t = rectangle();
    due("17: 01 12 23 30", t.slips(), 4);
    t.order(0, 3210);
    due("17: and 32 21 10, but no 01 of band 0", t.slips(), 7);
    t.order(1, 3210);
    t.order(2, 3210);
    due("17: all alike", t.slips(), 3);
    due("17: one band", Check.hunt("p;p;p;p;p;p;b").slips(), 5);
  }

  private static void well() {
    HuntTable t = rectangle();
    int[][] comers = {{0, 2, 1}, {1, 0, 2}, {2, 1, 0}, {2, 1, 0}};
    for (int place = 0; place < 4; place++) {
      for (int i = 0; i < 3; i++) {
        due("18: well(" + place + ", " + i + ")", t.well(place, i), comers[place][i]);
      }
    }
    due("18: well(0, 3)", t.well(0, 3), NONE);
    due("18: well(0, -1)", t.well(0, -1), NONE);
    due("18: well(4, 0)", t.well(4, 0), NONE);
    due("18: well(-1, 0)", t.well(-1, 0), NONE);
    HuntTable two = Check.hunt("p;p;b;b;b");
    due("18: in one turn by numbers", two.well(0, 0), 0);
    due("18: in one turn by numbers", two.well(0, 1), 2);
    due("18: then the next turn", two.well(0, 2), 1);
  }

  private static void sight() {
    HuntTable t = rectangle();
    due("19: neighbours in each turn", t.sight(), 8);
    t.order(1, 123);
    due("19: who meet are at one place, not at two", t.sight(), 0);
    due("19: two places at one spot", Check.hunt("px3y3;px3y3;b;b").sight(), 2);
    due("19: none in line", Check.hunt("px1y2;px3y4;b;b").sight(), 0);
    due("19: one alone", Check.hunt("p;p;b").sight(), 0);
  }

  private static void points() {
    HuntTable t = rectangle();
    due("20: without a worth", t.points(0), 0);
    Check.addWorth(t, "y:t*100+p*10+b");
    due("20: t, p, b of band 0", t.points(0), 660);
    due("20: t, p, b of band 1", t.points(1), 664);
    due("20: points(3)", t.points(3), HIDDEN);
    due("20: points(-1)", t.points(-1), HIDDEN);
    Check.addWorth(t, "y:m");
    due("20: m of band 0", t.points(0), 2 + 8 + 15 + 21);
    due("20: m of band 1", t.points(1), 10 + 21 + 30 + 41);
    t.start(1, 50);
    due("20: m by the START", t.points(1), 10 + 21 + 30 + 41 + 200);
    Check.addWorth(t, "y:d");
    due("20: d of band 0", t.points(0), 2 + 3 + 4 + 3);
    due("20: d of band 1", t.points(1), 5 + 4 + 3 + 4);
    t.order(0, 1302);
    Check.addWorth(t, "y:t*p");
    due("20: by its ORDER", t.points(0), 3 + 3 * 2);
  }

  /** Points of a band that goes 1, 2, 3, 0, three minutes each step. */
  private static void reckoned(String worth, int want) {
    HuntTable t = Check.hunt("px2y3;px9;p;p;b;bs3;lk4");
    Check.addWorth(t, worth);
    due("20: points by \"" + worth + "\"", t.points(1), want);
  }

  private static void worthsReckoned() {
    reckoned("y:1", 4);
    reckoned("y:t=0?1", 1);
    reckoned("y:t=0?1;y:t=1?10;y:100", 211);
    reckoned("y:t<2?1;y:t>0?10", 22);
    reckoned("y:t>2?1", 1);
    reckoned("y:9999*9999", 4000000);
    reckoned("y:0-9999*9999", -4000000);
    reckoned("y:9999*9999+9999-9999*9999", 0);
    reckoned("y:9999*9999*9999/9999", 400);
    reckoned("y:0-9999*9999-1+1", -3999996);
    reckoned("y:0-7/2", -12);
    reckoned("y:[0-7]/2", -12);
    reckoned("y:7/[0-2]", -12);
    reckoned("y:7/0", 0);
    reckoned("y:7/[t-t]+1", 4);
    reckoned("y:10-3-2", 20);
    reckoned("y:10-[3-2]", 36);
    reckoned("y:100/10/5", 8);
    reckoned("y:100/[10/5]", 200);
    reckoned("y:2+3*4", 56);
    reckoned("y:[2+3]*4", 80);
    reckoned("y:7/2*2", 24);
    reckoned("y:1=1|1=2&1=3?5", 20);
    reckoned("y:(1=1|1=2)&1=3?5", 0);
    reckoned("y:!1=1|1=1?5", 20);
    reckoned("y:!(1=1|1=1)?5", 0);
    reckoned("y:!1=1&1=2?5;y:6", 24);
    reckoned("y:!(1=1&1=2)?5;y:6", 20);
    reckoned("y:!!1=1?5", 20);
    reckoned("y:!!!1=1?5", 0);
    reckoned("y:!!!!!!1=1?[[[[[[5]]]]]]", 20);
    reckoned("y:1+1=2?5", 20);
    reckoned("y:2>1+1|2<1+1?5", 0);
    reckoned(" y : t = 0 ? 12 ", 12);
    reckoned("y:b", 4);
    reckoned("y:t=0?p", 1);
    reckoned("y:t=0?m;y:t=1?1000*d", 27 + 9000);
    reckoned("y:t=0?d", 9);
    reckoned("y:t=1?m", 27 + 4 + 27);
    reckoned("y:0012", 48);
    reckoned("y:" + "1+".repeat(78) + "22", 400);
  }

  private static void comesAndHome() {
    HuntTable t = rectangle();
    int[][] minutes = {{2, 8, 15, 21}, {10, 21, 30, 41}, {9, 15, 22, 28}};
    for (int band = 0; band < 3; band++) {
      for (int turn = 0; turn < 4; turn++) {
        due("21: comes(" + band + ", " + turn + ")", t.comes(band, turn), minutes[band][turn]);
      }
    }
    due("22: home(0)", t.home(0), 21 + 3 + 6);
    due("22: home(1)", t.home(1), 41 + 3 + 2 * 2);
    due("22: home(2)", t.home(2), 28 + 3 + 5);
    t.start(0, 99);
    due("21: by the START", t.comes(0, 3), 120);
    due("22: by the START", t.home(0), 129);
    due("21: comes(0, 4)", t.comes(0, 4), NONE);
    due("21: comes(0, -1)", t.comes(0, -1), NONE);
    due("21: comes(3, 0)", t.comes(3, 0), NONE);
    due("21: comes(-1, 0)", t.comes(-1, 0), NONE);
    due("22: home(3)", t.home(3), NONE);
    due("22: home(-1)", t.home(-1), NONE);
    due("22: a STAY of 5 without one told", Check.hunt("px1;py1;b").home(0), 1 + 5 + 2 + 5 + 1);
  }

  private static void clashes() {
    HuntTable t = rectangle();
    due("23: at place 1, minutes 8 .. 10 and 10 .. 12", t.clashes(0), 1);
    due("23: the first minute", t.clashes(1), 10);
    t.start(1, 1);
    due("23: minutes 8 .. 10 and 11 .. 13", t.clashes(0), 0);
    due("23: none", t.clashes(1), NONE);
    due("23: clashes(2)", t.clashes(2), HIDDEN);
    due("23: clashes(-1)", t.clashes(-1), HIDDEN);
    t.start(1, 0);
    t.order(2, 123);
    due("23: 0 with 2 everywhere, both with 1", t.clashes(0), 3);
    due("23: the first minute", t.clashes(1), 2);
    due("23: a STAY of 0", Check.hunt("p;p;b;b;b;lk0").clashes(0), 0);
    due("23: a pair counts once", Check.hunt("p;p;b;b;b;lk1").clashes(0), 1);
    due("23: its first minute", Check.hunt("px1;p;b;b;b;lk1").clashes(1), 1);
  }

  private static void starts() {
    HuntTable t = rectangle();
    t.start(0, 50);
    due("24: band 1 a minute later", t.starts(9, 0), 1);
    due("24: the row", t.starts(9, 1), 10);
    due("24: the row", t.starts(1, 1), 10);
    due("24: none", t.starts(0, 0), NONE);
    due("24: none", t.starts(0, 1), NONE);
    due("24: starts(10, 0)", t.starts(10, 0), NONE);
    due("24: starts(-1, 0)", t.starts(-1, 0), NONE);
    due("24: starts(9, 2)", t.starts(9, 2), NONE);
    due("24: starts(9, -1)", t.starts(9, -1), NONE);
    due("24: START stays", t.band(0, 2), 50);
    HuntTable alike = Check.hunt("p;p;b;b;b;lk2");
    due("24: 0 and 2 go alike, 1 the other way", alike.starts(9, 0), 4);
    due("24: 004, not 400", alike.starts(9, 1), 4);
    due("24: one alone", Check.hunt("p;p;b").starts(0, 1), 0);
    due("24: four", Check.hunt("p;p;b;b;b;b;lk0").starts(0, 0), 0);
    due("24: five are too many", Check.hunt("p;p;b;b;b;b;b;lk0").starts(0, 0), HIDDEN);
    due("24: five, out of bounds", Check.hunt("p;p;b;b;b;b;b;lk0").starts(10, 0), NONE);
  }

  private static void soonest() {
    HuntTable t = Check.hunt("px5;px1;px3;b;lk0");
    due("25: the least of four with 10 steps", t.soonest(0, 0), 21);
    due("25: when", t.soonest(0, 1), 10);
    t.start(0, 7);
    due("25: by the START", t.soonest(0, 1), 17);
    due("25: the ORDER stays", t.band(0, 1), 12);
    due("25: soonest(1, 0)", t.soonest(1, 0), NONE);
    due("25: soonest(-1, 0)", t.soonest(-1, 0), NONE);
    due("25: soonest(0, 2)", t.soonest(0, 2), NONE);
    due("25: soonest(0, -1)", t.soonest(0, -1), NONE);
    HuntTable two = Check.hunt("px5;px1;px3;b;b;lk2");
    due("25: clashing with none", two.soonest(0, 0), 21);
    two.order(1, 21);
    due("25: 021 would clash", two.soonest(0, 0), 102);
    due("25: when", two.soonest(0, 1), 16);
    HuntTable none = Check.hunt("px1;p;b;b;b;lk30");
    due("25: none", none.soonest(0, 0), NONE);
    due("25: none", none.soonest(0, 1), NONE);
  }

  private static void rich() {
    HuntTable t = rectangle();
    due("26: without a worth the least", t.rich(0, 0), 123);
    due("26: without a worth", t.rich(0, 1), 0);
    Check.addWorth(t, "y:t*p");
    due("26: 0123 or 3012", t.rich(0, 0), 123);
    due("26: how much", t.rich(0, 1), 14);
    Check.addWorth(t, "y:0-t*p");
    due("26: 0123 or 3012", t.rich(0, 0), 3012);
    due("26: how much", t.rich(0, 1), -8);
    due("26: rich(3, 0)", t.rich(3, 0), HIDDEN);
    due("26: rich(-1, 0)", t.rich(-1, 0), HIDDEN);
    due("26: rich(0, 2)", t.rich(0, 2), HIDDEN);
    due("26: rich(0, -1)", t.rich(0, -1), HIDDEN);
    HuntTable none = Check.hunt("p;p;b;b;b");
    due("26: none", none.rich(0, 0), HIDDEN);
    due("26: none", none.rich(0, 1), HIDDEN);
    HuntTable alone = Check.hunt("px5;px1;px3;bs2;lk1");
    alone.start(0, 3);
    Check.addWorth(alone, "y:t=2?m+1000*d");
    due("26: by minutes and steps", alone.rich(0, 1), 3 + 2 * (3 + 2 + 4) + 2 + 4000);
  }

  private static void find() {
    HuntTable t = rectangle();
    for (int i = 1; i <= 20; i++) {
      due("27: find", t.find(i % 3, i % 4, 0, false), i);
    }
    due("27: a 21st", t.find(0, 0, 0, false), NONE);
    due("27: FOUND", t.count(7), 20);
    HuntTable other = rectangle();
    int[][] refused = {{3, 0, 0}, {-1, 0, 0}, {0, 4, 0}, {0, -1, 0}, {0, 0, 4}, {0, 0, -1}};
    for (int[] args : refused) {
      due("27: no such ones", other.find(args[0], args[1], args[2], true), NONE);
    }
    due("27: none FOUND", other.count(7), 0);
    due("27: edges", other.find(2, 3, 3, true), 1);
    due("27: the same again", other.find(2, 3, 3, true), 2);
  }

  private static void fits() {
    HuntTable t = Check.hunt("p;p;p;p;p;p;b;b");
    due("28: all", t.fits(0), 720);
    t.find(0, 0, 3, true);
    due("28: 3 in turn 0", t.fits(0), 120);
    t.find(0, 1, 3, false);
    due("28: that is known", t.fits(0), 120);
    t.find(0, 1, 4, false);
    due("28: not 4 in turn 1", t.fits(0), 96);
    t.find(0, 5, 2, true);
    due("28: 2 in turn 5", t.fits(0), 18);
    due("28: of the other one all", t.fits(1), 720);
    t.find(0, 4, 2, true);
    due("28: not twice", t.fits(0), 0);
    t.find(1, 0, 0, true);
    t.find(1, 0, 0, false);
    due("28: so and not so", t.fits(1), 0);
    due("28: fits(2)", t.fits(2), NONE);
    due("28: fits(-1)", t.fits(-1), NONE);
  }

  private static void tables() {
    HuntTable t = Check.hunt("p;p;p;b;lf0");
    int[] orders = {12, 21, 102, 120, 201, 210};
    due("29: how many", t.tables(NONE, 0), 6);
    for (int i = 0; i < 6; i++) {
      due("29: rising", t.tables(i, 0), orders[i]);
    }
    due("29: tables(6, 0)", t.tables(6, 0), NONE);
    due("29: tables(-2, 0)", t.tables(-2, 0), NONE);
    due("29: tables(0, 1)", t.tables(0, 1), NONE);
    due("29: tables(0, -1)", t.tables(0, -1), NONE);
    due("29: any band", t.tables(NONE, 99), 6);
    t.find(0, 1, 1, false);
    t.find(0, 0, 0, false);
    due("29: by what is FOUND", t.tables(NONE, 0), 3);
    due("29: by what is FOUND", t.tables(0, 0), 102);
    due("29: by what is FOUND", t.tables(1, 0), 120);
    due("29: by what is FOUND", t.tables(2, 0), 201);
    t.find(0, 2, 2, true);
    due("29: by more", t.tables(NONE, 0), 1);
    due("29: squares of four", Check.hunt("p;p;p;p;b;b;b;b;lf9").tables(NONE, 0), 576);
    due("29: of three", Check.hunt("p;p;p;b;b;b;lf9").tables(NONE, 0), 12);
    due("29: two bands of three", Check.hunt("p;p;p;b;b;lf9").tables(NONE, 0), 12);
    due("29: no square of five by which all follow once", Check.hunt("p;p;p;p;p;b;b;b;b;b").tables(NONE, 0), 0);
    due("29: more bands than places", Check.hunt("p;p;b;b;b;lf9").tables(NONE, 0), 0);
    HuntTable many = Check.hunt("p;p;p;p;p;b;b;b;b;b;lf9");
    due("29: a thousand at most", many.tables(NONE, 0), 1000);
    due("29: the first", many.tables(0, 1), 10342);
    due("29: the last", many.tables(999, 0) >= 0, true);
    due("29: no more", many.tables(1000, 0), NONE);
    due("29: six places", Check.hunt("p;p;p;p;p;p;b").tables(NONE, 0), HIDDEN);
    due("29: six bands", Check.hunt("p;p;b;b;b;b;b;b").tables(0, 0), HIDDEN);
    due("29: orders of the table stay", many.band(1, 1), 12340);
  }

  private static void wrong() {
    HuntTable t = rectangle();
    due("30: meets band 1", t.wrong(0, 1, 2, 0), 2);
    due("30: meets band 2", t.wrong(0, 1, 3, 0), 4);
    due("30: meets none", t.wrong(0, 1, 0, 0), 0);
    due("30: by its ORDER", t.wrong(0, 1, 1, 0), NONE);
    due("30: by its ORDER", t.wrong(0, 1, 1, 1), NONE);
    due("30: follows 2, then 1 twice", t.wrong(0, 1, 2, 1), 3);
    due("30: follows 1 twice", t.wrong(0, 1, 0, 1), 2);
    due("30: turn 0 follows none", t.wrong(0, 0, 3, 1), 3);
    due("30: follows 1 twice, then 2", t.wrong(0, 3, 0, 1), 3);
    t.order(2, 1230);
    due("30: meets two", t.wrong(0, 1, 2, 0), 6);
    due("30: follows two at once", t.wrong(0, 1, 2, 1), 4);
    int[][] refused = {{3, 0, 0, 0}, {-1, 0, 0, 0}, {0, 4, 0, 0}, {0, -1, 0, 0}, {0, 0, 4, 0}, {0, 0, -1, 0}, {0, 0, 1, 2}, {0, 0, 1, -1}};
    for (int[] a : refused) {
      due("30: no such ones", t.wrong(a[0], a[1], a[2], a[3]), NONE);
    }
    due("30: the ORDER stays", t.band(0, 1), 123);
    t.order(0, 1023);
    due("30: whom it meets in that turn alone", t.wrong(0, 1, 3, 0), 0);
  }

  private static void helpers() {
    HuntTable t = rectangle();
    due("31: each stays", t.helpers(0), 4);
    due("31: two and two", t.helpers(3), 4);
    due("31: each with a band", t.helpers(4), 3);
    due("31: anywhere", t.helpers(40), 3);
    due("31: helpers(41)", t.helpers(41), NONE);
    due("31: helpers(-1)", t.helpers(-1), NONE);
    HuntTable one = Check.hunt("px0;px20;px10;b");
    due("31: over a place without a band, in two turns", one.helpers(20), 1);
    due("31: too far for one", one.helpers(10), 2);
    due("31: each stays", one.helpers(9), 3);
    due("31: several may be at one", Check.hunt("p;p;b;b;b;b;b;b").helpers(0), 2);
  }

  private static void pieces() {
    HuntTable t = new HuntTable();
    due("32: four of ten", t.pieces(10, 5, 0), 210);
    due("32: four of nine", t.pieces(10, 5, 1), 126);
    due("32: all but the first four", t.pieces(10, 5, 2), 1008);
    due("32: all but 0, 1, 2, 4", t.pieces(10, 5, 3), 1023 - 23);
    due("32: all but the last four", t.pieces(10, 5, 211), 63);
    due("32: no such one", t.pieces(10, 5, 212), NONE);
    due("32: ten of ten", t.pieces(10, 10, 0), 10);
    due("32: each has one", t.pieces(10, 10, 1), 1);
    due("32: the last has the first", t.pieces(10, 10, 2), 512);
    due("32: one of one", t.pieces(1, 1, 0), 1);
    due("32: one of one", t.pieces(1, 1, 1), 1);
    due("32: one of one", t.pieces(1, 1, 2), 1);
    due("32: one of one", t.pieces(1, 1, 3), NONE);
    int[][] refused = {{0, 0, 0}, {0, 1, 0}, {11, 1, 0}, {3, 0, 0}, {3, 4, 0}, {3, 2, -1}, {-1, -1, 0},
        {3, 2, Integer.MAX_VALUE}, {3, 2, Integer.MIN_VALUE}, {Integer.MAX_VALUE, 1, 0}};
    for (int[] a : refused) {
      due("32: out of bounds", t.pieces(a[0], a[1], a[2]), NONE);
    }
  }

  private static void drawn() {
    HuntTable t = rectangle();
    long[] seeds = {0, 1, 7, -1, Long.MIN_VALUE, Long.MAX_VALUE};
    int[][] orders = {{2103, 3120, 1320}, {1302, 3102, 312}, {132, 231, 2130}, {3120, 3102, 3021}, {213, 2130, 1230},
        {3210, 132, 2031}};
    for (int i = 0; i < seeds.length; i++) {
      due("33: one ACT", t.drawn(seeds[i]), i + 1);
      for (int band = 0; band < 3; band++) {
        due("33: order of band " + band + " by " + seeds[i], t.band(band, 1), orders[i][band]);
      }
    }
    due("33: undone at once", t.undo(), 5);
    due("33: undone at once", t.band(0, 1), 213);
    due("33: undone at once", t.band(2, 1), 1230);
    HuntTable six = Check.hunt("p;p;p;p;p;p;b;b");
    six.drawn(-1);
    due("33: of six", six.band(0, 1), 502134);
    due("33: of six", six.band(1, 1), 241305);
    t.start(0, 5);
    t.drawn(3);
    due("33: STARTS stay", t.band(0, 2), 5);
  }

  private static void imageBackAgain() {
    HuntTable t = rectangle();
    due("35: no IMAGE", t.back(), NONE);
    due("36: no IMAGE", t.again(), NONE);
    t.order(0, 3210);
    t.start(1, 44);
    due("34: one ACT", t.image(), 1);
    due("36: all", t.again(), 12);
    t.order(0, 3201);
    t.order(1, 123);
    t.start(1, 45);
    t.start(2, 1);
    due("36: two of band 0, none of band 1, all of band 2", t.again(), 6);
    due("35: back", t.back(), 0);
    due("35: ORDER", t.band(0, 1), 3210);
    due("35: ORDER", t.band(1, 1), 1230);
    due("35: START", t.band(1, 2), 44);
    due("35: START", t.band(2, 2), 0);
    due("35: no ACT can be UNDONE then", t.count(8), 0);
    due("35: no ACT can be UNDONE then", t.undo(), NONE);
    t.drawn(1);
    due("35: back again", t.back(), 0);
    due("35: ORDER", t.band(0, 1), 3210);
    t.order(0, 123);
    due("34: instead of the one ahead", t.image(), 1);
    t.order(0, 1023);
    t.undo();
    due("36: alike again", t.again(), 12);
    t.order(2, 123);
    t.back();
    due("35: the later IMAGE", t.band(0, 1), 123);
    due("35: the later IMAGE", t.band(2, 1), 2301);
  }

  private static void count() {
    HuntTable t = Check.hunt("p;p;p;b;b;lf7k0");
    Check.addWorth(t, "y:1");
    Check.addWorth(t, "y:2");
    t.find(0, 0, 0, true);
    t.order(0, 12);
    t.order(0, 21);
    t.drawn(1);
    Check.put(t, "abcd");
    int[] counts = {3, 2, 2, 4, 7, 0, 1, 1, 3};
    for (int i = 0; i < counts.length; i++) {
      due("37: count(" + i + ")", t.count(i), counts[i]);
    }
    due("37: count(9)", t.count(9), HIDDEN);
    due("37: count(-1)", t.count(-1), HIDDEN);
    due("37: count(MIN)", t.count(Integer.MIN_VALUE), HIDDEN);
  }
}
