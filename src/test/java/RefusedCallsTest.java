import java.util.ArrayList;
import java.util.List;
import java.util.NoSuchElementException;
import java.util.function.Consumer;
import java.util.function.ToLongFunction;

/**
 * What each promise refuses, and "What is refused answers as told and changes nothing.": each refused call is made on an
 * object whose twin is spared it; then both are asked everything and made to undo and go back, and must answer alike.
 */
public final class RefusedCallsTest {
  private static final int NONE = -1;
  private static final int HIDDEN = -1000000;
  private static final long THROWS = Long.MAX_VALUE;
  private static final int[] OUTSIDE_BANDS = {3, 4, 6, 99, Integer.MAX_VALUE, -1, -2, HIDDEN, Integer.MIN_VALUE};
  private static final int[] OUTSIDE_PLACES = {4, 5, 6, 99, Integer.MAX_VALUE, -1, -2, HIDDEN, Integer.MIN_VALUE};

  public static void main(String[] args) {
    noHunt();
    tape();
    texts();
    placesAndBands();
    ordersAndStarts();
    worthsAndUndo();
    askingTheTable();
    askingTheClock();
    finding();
    goingWrong();
    imagesAndCounts();
    full();
    Check.finish();
  }

  /** Four places, three bands, two worths, of everything something, and bytes on the tape. */
  private static HuntTable told() {
    HuntTable t = new HuntTable();
    put(t, "px1y1;px4y1;px4y5;px1y5;b;bs2;b;lf1k3");
    t.text(0);
    put(t, "y:t*p");
    t.text(1);
    put(t, "y:m+d");
    t.text(1);
    t.worth(1);
    t.order(0, 3210);
    t.start(1, 9);
    t.find(0, 1, 2, false);
    t.image();
    t.order(1, 2130);
    t.drawn(77);
    t.start(2, 5);
    put(t, "p;p;b;#");
    return t;
  }

  /** As much of everything as there can be. */
  private static HuntTable filled() {
    HuntTable t = new HuntTable();
    put(t, "px1;py2;px3y3;px20y20;p;p;b;bs2;b;bs5;b;b;lf9k30");
    t.text(0);
    for (int i = 0; i < 4; i++) {
      put(t, "y:t*p+" + i);
      t.text(1);
    }
    t.worth(3);
    for (int i = 0; i < 45; i++) {
      t.drawn(i);
    }
    t.image();
    t.start(5, 99);
    for (int i = 0; i < 20; i++) {
      t.find(i % 6, i % 5, i % 3, false);
    }
    put(t, "y:1" + " ".repeat(157));
    return t;
  }

  private static void put(HuntTable t, String text) {
    t.end(0);
    int[] numbers = Check.packed(text);
    for (int i = 0; i < numbers.length; i += 5) {
      t.feed(numbers[i], numbers[i + 1], numbers[i + 2], numbers[i + 3], numbers[i + 4]);
    }
  }

  private static long place(HuntTable t, int place, int what) {
    try {
      return t.place(place, what);
    } catch (NoSuchElementException e) {
      return THROWS;
    }
  }

  /** All that can be asked without a change. */
  private static void look(HuntTable t, List<Long> seen) {
    for (int what = 0; what <= 8; what++) {
      seen.add((long) t.count(what));
    }
    seen.add((long) t.fault(0));
    seen.add((long) t.fault(1));
    seen.add((long) t.again());
    seen.add((long) t.lawful());
    seen.add((long) t.slips());
    seen.add((long) t.sight());
    seen.add((long) t.clashes(1));
    seen.add((long) t.tables(NONE, 0));
    for (int i = 0; i < 6; i++) {
      seen.add(place(t, i, 0));
      seen.add(place(t, i, 1));
      for (int what = 0; what < 3; what++) {
        seen.add((long) t.band(i, what));
      }
      seen.add((long) t.points(i));
      seen.add((long) t.home(i));
      seen.add((long) t.fits(i));
    }
  }

  /** Then what lies behind: the acts, the image, the bytes of the tape and what comes next to it. */
  private static List<Long> lookThrough(HuntTable t) {
    List<Long> seen = new ArrayList<>();
    look(t, seen);
    for (int i = 0; i < 42; i++) {
      seen.add((long) t.undo());
      seen.add((long) t.band(i % 3, 1));
      seen.add((long) t.band(3 + i % 3, 1));
    }
    seen.add((long) t.back());
    look(t, seen);
    for (int worth = 0; worth < 4; worth++) {
      seen.add(t.worth(worth) ? 1L : 0L);
      seen.add((long) t.points(0));
    }
    for (int n = t.count(3); n > 0; n = n * 3 / 4) {
      t.end(n);
      seen.add((long) t.fault(0));
      seen.add((long) t.fault(1));
    }
    return seen;
  }

  private static void refused(String call, HuntTable one, HuntTable twin, ToLongFunction<HuntTable> refused, long want) {
    Check.due(call, refused.applyAsLong(one), want);
    Check.due(call + " once more", refused.applyAsLong(one), want);
    Check.due(call + " changes nothing", lookThrough(one).equals(lookThrough(twin)), true);
  }

  private static void refused(String call, ToLongFunction<HuntTable> refused, long want) {
    refused(call, told(), told(), refused, want);
  }

  private static void allFalse(String call, ToLongFunction<HuntTable> refused) {
    refused(call, refused, 0);
  }

  private static void noHunt(String call, ToLongFunction<HuntTable> refused, long want) {
    refused(call + " without a HUNT", new HuntTable(), new HuntTable(), refused, want);
  }

  private static void noHunt() {
    Check.says("No HUNT: no such ones");
    noHunt("text(0)", t -> t.text(0), NONE);
    noHunt("place(0, 0)", t -> place(t, 0, 0), THROWS);
    noHunt("band(0, 0)", t -> t.band(0, 0), NONE);
    noHunt("order(0, 0)", t -> t.order(0, 0), NONE);
    noHunt("order(0, 1)", t -> t.order(0, 1), NONE);
    noHunt("start(0, 0)", t -> t.start(0, 0) ? 1 : 0, 0);
    noHunt("worth(0)", t -> t.worth(0) ? 1 : 0, 0);
    noHunt("undo()", HuntTable::undo, NONE);
    noHunt("at(0, 0)", t -> t.at(0, 0), NONE);
    noHunt("follows(0, 1)", t -> t.follows(0, 1), NONE);
    noHunt("well(0, 0)", t -> t.well(0, 0), NONE);
    noHunt("points(0)", t -> t.points(0), HIDDEN);
    noHunt("comes(0, 0)", t -> t.comes(0, 0), NONE);
    noHunt("home(0)", t -> t.home(0), NONE);
    noHunt("soonest(0, 0)", t -> t.soonest(0, 0), NONE);
    noHunt("rich(0, 0)", t -> t.rich(0, 0), HIDDEN);
    noHunt("find(0, 0, 0, true)", t -> t.find(0, 0, 0, true), NONE);
    noHunt("fits(0)", t -> t.fits(0), NONE);
    noHunt("wrong(0, 0, 1, 0)", t -> t.wrong(0, 0, 1, 0), NONE);
    Check.says("lawful, NONE: no HUNT");
    noHunt("lawful()", HuntTable::lawful, NONE);
    Check.says("crowd, NONE: no HUNT");
    noHunt("crowd(0)", t -> t.crowd(0), NONE);
    noHunt("crowd(2)", t -> t.crowd(2), NONE);
    Check.says("slips, NONE: no HUNT");
    noHunt("slips()", HuntTable::slips, NONE);
    Check.says("sight, NONE: no HUNT");
    noHunt("sight()", HuntTable::sight, NONE);
    Check.says("clashes, HIDDEN: no HUNT");
    noHunt("clashes(0)", t -> t.clashes(0), HIDDEN);
    noHunt("clashes(1)", t -> t.clashes(1), HIDDEN);
    Check.says("starts, NONE: no HUNT");
    noHunt("starts(9, 0)", t -> t.starts(9, 0), NONE);
    noHunt("starts(0, 1)", t -> t.starts(0, 1), NONE);
    Check.says("tables, HIDDEN: no HUNT");
    noHunt("tables(NONE, 0)", t -> t.tables(NONE, 0), HIDDEN);
    noHunt("tables(0, 0)", t -> t.tables(0, 0), HIDDEN);
    noHunt("tables(-2, 0)", t -> t.tables(-2, 0), HIDDEN);
    Check.says("helpers, NONE: no HUNT");
    noHunt("helpers(0)", t -> t.helpers(0), NONE);
    Check.says("drawn, NONE: no HUNT");
    noHunt("drawn(0)", t -> t.drawn(0), NONE);
    Check.says("image, NONE: no HUNT");
    noHunt("image()", HuntTable::image, NONE);
    Check.says("back, again, NONE: no IMAGE");
    noHunt("back()", HuntTable::back, NONE);
    noHunt("again()", HuntTable::again, NONE);
  }

  private static void tape() {
    Check.says("end, False: n");
    for (int n : new int[] {-1, -2, Integer.MIN_VALUE, 8, 9, 160, 161, Integer.MAX_VALUE}) {
      allFalse("end(" + n + ")", t -> t.end(n) ? 1 : 0);
    }
    Check.says("fault, -2: no such sort");
    for (int sort : new int[] {-1, -2, 2, 3, Integer.MIN_VALUE, Integer.MAX_VALUE}) {
      refused("fault(" + sort + ")", t -> t.fault(sort), -2);
      noHunt("fault(" + sort + ")", t -> t.fault(sort), -2);
    }
  }

  private static void texts() {
    Check.says("text, NONE: a FAULT");
    refused("text(0) of p;p;b;#", t -> t.text(0), NONE);
    refused("text(1) of p;p;b;#", t -> t.text(1), NONE);
    String[] faulty = {"", "p", "p;p", "p;b", "p;p;b;", "px21;p;b", "px2;px3;p;b;b;lf0k0;l", "p;p;bs6", "p;p;p;p;p;p;p;b"};
    for (String text : faulty) {
      HuntTable one = told();
      HuntTable twin = told();
      put(one, text);
      put(twin, text);
      refused("text(0) of \"" + text + "\"", one, twin, t -> t.text(0), NONE);
    }
    String[] faultyWorths = {"", "y", "y:1;", "y:t?1", "y:12345", "y:1;y:2;y:(t=1)"};
    for (String text : faultyWorths) {
      HuntTable one = told();
      HuntTable twin = told();
      put(one, text);
      put(twin, text);
      refused("text(1) of \"" + text + "\"", one, twin, t -> t.text(1), NONE);
    }

    Check.says("text, NONE: no such sort");
    for (int sort : new int[] {-1, -2, 2, 3, Integer.MIN_VALUE, Integer.MAX_VALUE}) {
      HuntTable one = told();
      HuntTable twin = told();
      put(one, "p;p;b");
      put(twin, "p;p;b");
      refused("text(" + sort + ") of p;p;b", one, twin, t -> t.text(sort), NONE);
    }
  }

  private static void placesAndBands() {
    Check.says("place, NoSuchElementException: no such ones");
    for (int place : OUTSIDE_PLACES) {
      refused("place(" + place + ", 0)", t -> place(t, place, 0), THROWS);
      refused("place(" + place + ", 1)", t -> place(t, place, 1), THROWS);
    }
    for (int what : new int[] {-1, 2, 3, Integer.MIN_VALUE, Integer.MAX_VALUE}) {
      refused("place(0, " + what + ")", t -> place(t, 0, what), THROWS);
    }
    Check.says("band, NONE: no such ones");
    for (int band : OUTSIDE_BANDS) {
      for (int what = 0; what < 3; what++) {
        int asked = what;
        refused("band(" + band + ", " + what + ")", t -> t.band(band, asked), NONE);
      }
    }
    for (int what : new int[] {-1, 3, 4, Integer.MIN_VALUE, Integer.MAX_VALUE}) {
      refused("band(0, " + what + ")", t -> t.band(0, what), NONE);
    }
  }

  private static void ordersAndStarts() {
    Check.says("order, NONE: no such ones");
    for (int band : OUTSIDE_BANDS) {
      refused("order(" + band + ", 123)", t -> t.order(band, 123), NONE);
    }
    int[] orders = {-1, 0, 12, 122, 124, 1233, 3211, 3214, 4321, 10123, 32100, 43210, -123, Integer.MIN_VALUE, Integer.MAX_VALUE};
    for (int order : orders) {
      refused("order(0, " + order + ")", t -> t.order(0, order), NONE);
    }
    Check.says("start, False: no such ones");
    for (int band : OUTSIDE_BANDS) {
      allFalse("start(" + band + ", 1)", t -> t.start(band, 1) ? 1 : 0);
    }
    for (int minute : new int[] {-1, -2, 100, 101, Integer.MIN_VALUE, Integer.MAX_VALUE}) {
      allFalse("start(0, " + minute + ")", t -> t.start(0, minute) ? 1 : 0);
    }
  }

  private static void worthsAndUndo() {
    Check.says("worth, False: no such one");
    for (int worth : new int[] {2, 3, 4, 5, Integer.MAX_VALUE, -2, HIDDEN, Integer.MIN_VALUE}) {
      allFalse("worth(" + worth + ")", t -> t.worth(worth) ? 1 : 0);
    }
    Check.says("undo, NONE: none");
    Consumer<HuntTable> undoAll = t -> {
      t.undo();
      t.undo();
      t.undo();
    };
    HuntTable one = told();
    HuntTable twin = told();
    undoAll.accept(one);
    undoAll.accept(twin);
    refused("undo()", one, twin, HuntTable::undo, NONE);
  }

  private static void askingTheTable() {
    Check.says("at, NONE: no such ones");
    for (int band : OUTSIDE_BANDS) {
      refused("at(" + band + ", 0)", t -> t.at(band, 0), NONE);
    }
    for (int turn : OUTSIDE_PLACES) {
      refused("at(0, " + turn + ")", t -> t.at(0, turn), NONE);
    }
    Check.says("follows, NONE: no such ones, alike");
    for (int band : OUTSIDE_BANDS) {
      refused("follows(" + band + ", 0)", t -> t.follows(band, 0), NONE);
      refused("follows(0, " + band + ")", t -> t.follows(0, band), NONE);
      refused("follows(" + band + ", " + band + ")", t -> t.follows(band, band), NONE);
    }
    for (int band = 0; band < 3; band++) {
      int same = band;
      refused("follows(" + band + ", " + band + ")", t -> t.follows(same, same), NONE);
    }
    Check.says("crowd, NONE: none MEET");
    for (int what = 0; what < 3; what++) {
      Check.due("crowd(" + what + ")", Check.hunt("p;p;p;b;b;b").crowd(what), NONE);
    }
    Check.says("crowd, NONE: no such what");
    for (int what : new int[] {-1, -2, 3, 4, Integer.MIN_VALUE, Integer.MAX_VALUE}) {
      refused("crowd(" + what + ")", t -> t.crowd(what), NONE);
      Check.due("crowd(" + what + ") though some MEET", Check.hunt("p;p;b;b;b").crowd(what), NONE);
    }
    Check.says("even, NONE: no such ones");
    int[][] even = {{0, 0, 0}, {1, 0, 0}, {-2, 0, 0}, {3, 0, 0}, {401, 0, 0}, {402, 0, 0}, {6, 6, 0}, {6, 0, 6}, {6, -1, 0},
        {6, 0, -1}, {6, Integer.MAX_VALUE, 0}, {6, 0, Integer.MIN_VALUE}, {Integer.MIN_VALUE, 0, 0}, {Integer.MAX_VALUE, 0, 0}};
    for (int[] a : even) {
      refused("even(" + a[0] + ", " + a[1] + ", " + a[2] + ")", t -> t.even(a[0], a[1], a[2]), NONE);
    }
    Check.says("well, NONE: no such ones");
    for (int place : OUTSIDE_PLACES) {
      refused("well(" + place + ", 0)", t -> t.well(place, 0), NONE);
    }
    for (int i : OUTSIDE_BANDS) {
      refused("well(0, " + i + ")", t -> t.well(0, i), NONE);
    }
    Check.says("points, HIDDEN: no such BAND");
    for (int band : OUTSIDE_BANDS) {
      refused("points(" + band + ")", t -> t.points(band), HIDDEN);
    }
  }

  private static void askingTheClock() {
    Check.says("comes, NONE: no such ones");
    for (int band : OUTSIDE_BANDS) {
      refused("comes(" + band + ", 0)", t -> t.comes(band, 0), NONE);
    }
    for (int turn : OUTSIDE_PLACES) {
      refused("comes(0, " + turn + ")", t -> t.comes(0, turn), NONE);
    }
    Check.says("home, NONE: no such BAND");
    for (int band : OUTSIDE_BANDS) {
      refused("home(" + band + ")", t -> t.home(band), NONE);
    }
    int[] noSuchWhat = {-1, -2, 2, 3, Integer.MIN_VALUE, Integer.MAX_VALUE};
    Check.says("clashes, HIDDEN: no such what");
    for (int what : noSuchWhat) {
      refused("clashes(" + what + ")", t -> t.clashes(what), HIDDEN);
    }
    Check.says("starts, NONE: out of bounds, no such what");
    for (int most : new int[] {-1, -2, 10, 11, Integer.MIN_VALUE, Integer.MAX_VALUE}) {
      refused("starts(" + most + ", 0)", t -> t.starts(most, 0), NONE);
    }
    for (int what : noSuchWhat) {
      refused("starts(9, " + what + ")", t -> t.starts(9, what), NONE);
    }
    Check.says("soonest, NONE: no such ones");
    for (int band : OUTSIDE_BANDS) {
      refused("soonest(" + band + ", 0)", t -> t.soonest(band, 0), NONE);
    }
    for (int what : noSuchWhat) {
      refused("soonest(0, " + what + ")", t -> t.soonest(0, what), NONE);
    }
    Check.says("starts, soonest, NONE: none; rich, HIDDEN: none");
    for (int what = 0; what < 2; what++) {
      int asked = what;
      refused("starts of none", Check.hunt("p;p;b;b;b;lk9"), Check.hunt("p;p;b;b;b;lk9"), t -> t.starts(8, asked), NONE);
      refused("soonest of none", Check.hunt("p;p;b;b;b;lk9"), Check.hunt("p;p;b;b;b;lk9"), t -> t.soonest(0, asked), NONE);
      refused("rich of none", Check.hunt("p;p;b;b;b;lk9"), Check.hunt("p;p;b;b;b;lk9"), t -> t.rich(0, asked), HIDDEN);
    }
    Check.says("rich, HIDDEN: no such ones");
    for (int band : OUTSIDE_BANDS) {
      refused("rich(" + band + ", 0)", t -> t.rich(band, 0), HIDDEN);
    }
    for (int what : noSuchWhat) {
      refused("rich(0, " + what + ")", t -> t.rich(0, what), HIDDEN);
    }
  }

  private static void finding() {
    Check.says("find, NONE: no such ones");
    for (int band : OUTSIDE_BANDS) {
      refused("find(" + band + ", 0, 0, true)", t -> t.find(band, 0, 0, true), NONE);
    }
    for (int other : OUTSIDE_PLACES) {
      refused("find(0, " + other + ", 0, true)", t -> t.find(0, other, 0, true), NONE);
      refused("find(0, 0, " + other + ", false)", t -> t.find(0, 0, other, false), NONE);
    }
    Check.says("fits, NONE: no such BAND");
    for (int band : OUTSIDE_BANDS) {
      refused("fits(" + band + ")", t -> t.fits(band), NONE);
    }
    Check.says("tables, NONE: no such ones");
    for (int band : OUTSIDE_BANDS) {
      HuntTable one = Check.hunt("p;p;b;b;b;lf9");
      Check.due("tables(0, " + band + ") of none", one.tables(0, band), NONE);
      Check.due("tables(0, " + band + ")", Check.hunt("p;p;p;b;b;b;lf9").tables(0, band), NONE);
    }
    for (int i : new int[] {-2, -3, HIDDEN, Integer.MIN_VALUE, 12, 13, 999, 1000, Integer.MAX_VALUE}) {
      Check.due("tables(" + i + ", 0)", Check.hunt("p;p;p;b;b;b;lf9").tables(i, 0), NONE);
      refused("tables(" + i + ", 3)", t -> t.tables(i, 3), NONE);
    }
  }

  private static void goingWrong() {
    Check.says("wrong, NONE: no such ones");
    for (int band : OUTSIDE_BANDS) {
      refused("wrong(" + band + ", 0, 0, 0)", t -> t.wrong(band, 0, 0, 0), NONE);
    }
    for (int other : OUTSIDE_PLACES) {
      refused("wrong(0, " + other + ", 0, 1)", t -> t.wrong(0, other, 0, 1), NONE);
      refused("wrong(0, 0, " + other + ", 0)", t -> t.wrong(0, 0, other, 0), NONE);
    }
    for (int what : new int[] {-1, -2, 2, 3, Integer.MIN_VALUE, Integer.MAX_VALUE}) {
      for (int place = 0; place < 4; place++) {
        int to = place;
        refused("wrong(0, 0, " + to + ", " + what + ")", t -> t.wrong(0, 0, to, what), NONE);
      }
    }
    Check.says("wrong, NONE: by its ORDER");
    for (int turn = 0; turn < 4; turn++) {
      int when = turn;
      refused("wrong by its ORDER, 0", t -> t.wrong(1, when, t.at(1, when), 0), NONE);
      refused("wrong by its ORDER, 1", t -> t.wrong(1, when, t.at(1, when), 1), NONE);
    }
    Check.says("helpers, NONE: out of bounds");
    for (int steps : new int[] {-1, -2, 41, 42, Integer.MIN_VALUE, Integer.MAX_VALUE}) {
      refused("helpers(" + steps + ")", t -> t.helpers(steps), NONE);
    }
    Check.says("pieces, NONE: out of bounds, no such ones");
    int[][] pieces = {{0, 0, 0}, {0, 1, 0}, {-1, 1, 0}, {11, 1, 0}, {4, 0, 0}, {4, 5, 0}, {4, -1, 1}, {4, 2, -1}, {4, 2, -2},
        {4, 2, 6}, {4, 2, Integer.MAX_VALUE}, {4, 2, Integer.MIN_VALUE}, {Integer.MAX_VALUE, 1, 0}, {Integer.MIN_VALUE, 1, 0},
        {33, 1, 0}, {4, Integer.MAX_VALUE, 0}, {4, Integer.MIN_VALUE, 0}};
    for (int[] a : pieces) {
      refused("pieces(" + a[0] + ", " + a[1] + ", " + a[2] + ")", t -> t.pieces(a[0], a[1], a[2]), NONE);
    }
  }

  private static void imagesAndCounts() {
    Check.says("back, again, NONE: no IMAGE of this HUNT");
    HuntTable one = told();
    HuntTable twin = told();
    put(one, "p;p;p;b;b");
    put(twin, "p;p;p;b;b");
    one.text(0);
    twin.text(0);
    one.order(0, 210);
    twin.order(0, 210);
    refused("back()", one, twin, HuntTable::back, NONE);
    one = Check.hunt("p;p;b");
    twin = Check.hunt("p;p;b");
    refused("again()", one, twin, HuntTable::again, NONE);
    Check.says("count, HIDDEN for others");
    for (int what : new int[] {-1, -2, 9, 10, Integer.MIN_VALUE, Integer.MAX_VALUE}) {
      refused("count(" + what + ")", t -> t.count(what), HIDDEN);
    }
  }

  private static void whenFull(String call, ToLongFunction<HuntTable> refused, long want) {
    refused(call + " when all is full", filled(), filled(), refused, want);
  }

  private static void full() {
    Check.says("feed, NONE: more than 160");
    whenFull("feed of one", t -> t.feed(0, 0, 0, 0, 1), NONE);
    whenFull("feed of one", t -> t.feed(0x20000000, 0, 0, 0, 0), NONE);
    whenFull("feed of twenty", t -> t.feed(-1, -1, -1, -1, -1), NONE);
    Check.says("text, NONE: there are four WORTHS");
    whenFull("text(1)", t -> t.text(1), NONE);
    Check.says("find, NONE: there are 20");
    whenFull("find", t -> t.find(0, 0, 0, true), NONE);
    whenFull("find", t -> t.find(5, 5, 5, false), NONE);
    Check.says("starts, HIDDEN: too many BANDS");
    whenFull("starts(0, 0)", t -> t.starts(0, 0), HIDDEN);
    whenFull("starts(9, 1)", t -> t.starts(9, 1), HIDDEN);
    Check.says("tables, HIDDEN: too many");
    whenFull("tables(NONE, 0)", t -> t.tables(NONE, 0), HIDDEN);
    whenFull("tables(0, 0)", t -> t.tables(0, 0), HIDDEN);
    whenFull("tables(-2, 0)", t -> t.tables(-2, 0), HIDDEN);
    Check.says("What only asks changes nothing either");
    whenFull("asking", t -> {
      long sum = t.sight() + t.slips() + t.clashes(0) + t.helpers(9) + t.soonest(0, 0) + t.rich(5, 1) + t.well(5, 5);
      sum += t.wrong(0, 0, (t.at(0, 0) + 1) % 6, 1) + t.crowd(0) + t.pieces(10, 5, 99) + t.fault(0) + t.fault(1);
      return sum == Long.MIN_VALUE ? 1 : 0;
    }, 0);
    refused("asking", t -> {
      long sum = t.starts(9, 1) + t.tables(NONE, 0) + t.tables(0, 0) + t.rich(1, 0) + t.soonest(1, 0) + t.fits(2);
      return sum == Long.MIN_VALUE ? 1 : 0;
    }, 0);
  }
}
