import java.math.BigInteger;

/** The tape, afternoons, acts undone, images, another hunt: for each sentence with an edge a test. */
public final class ActsEdgesTest {
  private static final int NONE = -1;

  public static void main(String[] args) {
    newObject();
    feed();
    end();
    afternoon();
    acts();
    undone();
    image();
    again();
    anotherHunt();
    count();
    Check.finish();
  }

  private static void due(String call, long got, long want) {
    Check.due(call, got, want);
  }

  private static void newObject() {
    Check.says("A new object: No HUNT");
    HuntTable t = new HuntTable();
    due("PLACES", t.count(0), 0);
    due("BANDS", t.count(1), 0);
    due("lawful()", t.lawful(), NONE);
    due("the TAPE is empty", t.count(3), 0);
    due("WORTHS", t.count(2), 0);

    Check.says("The constants");
    due("NONE", HuntTable.NONE, -1);
    due("HIDDEN", HuntTable.HIDDEN, -1000000);

    Check.says("An object is used for at most 512 calls");
    HuntTable used = new HuntTable();
    used.feed('p' << 24 | ';' << 16 | 'p' << 8 | ';', 'b' << 24, 0, 0, 0);
    used.text(0);
    for (int call = 3; call <= 511; call++) {
      due("call " + call, used.order(0, call % 2 == 0 ? 1 : 10), Math.min(call - 2, 40));
    }
    due("the last call", used.band(0, 1), 10);
  }

  private static void feed() {
    Check.says("Twenty bytes more come to the TAPE");
    HuntTable t = new HuntTable();
    due("feed of twenty", t.feed(-1, -1, -1, -1, -1), 20);
    due("feed of twenty more", t.feed(0x20202020, 0x01010101, 0x7f7f7f7f, 0x80808080, 0xff010203), 40);

    Check.says("of each number the highest first");
    HuntTable order = new HuntTable();
    order.feed('p' << 24 | ';' << 16 | 'p' << 8 | 'x', '9' << 24 | ';' << 16 | 'b' << 8 | 's', '3' << 24, 0, 0);
    due("p;px9;bs3", order.fault(0), NONE);
    due("text(0)", order.text(0), 1);
    due("x", order.place(1, 0), 9);
    due("SLOW", order.band(0, 0), 3);

    Check.says("bytes of 0 are left out");
    HuntTable none = new HuntTable();
    due("all 0", none.feed(0, 0, 0, 0, 0), 0);
    due("one in each number, at each byte", none.feed('p' << 24, ';' << 16, 'p' << 8, ';', 'b' << 24), 5);
    due("p;p;b", none.fault(0), NONE);
    due("between two", none.feed(0x3b000062, 0x003b6200, 0, 0, 0), 9);
    due("p;p;b;b;b", none.text(0), 3);

    Check.says("NONE: more than 160");
    HuntTable full = new HuntTable();
    for (int i = 1; i <= 7; i++) {
      due("feed of twenty", full.feed(-1, -1, -1, -1, -1), 20 * i);
    }
    due("nineteen more", full.feed(-1, -1, -1, -1, 0x00ffffff), 159);
    due("two more", full.feed(0, 0, 0, 0, 0x0101), NONE);
    due("one more in each of two numbers", full.feed(1, 1, 0, 0, 0), NONE);
    due("one more in each of two numbers", full.feed(0, 1, 1, 0, 0), NONE);
    due("one more in each of two numbers", full.feed(0, 0, 1, 1, 0), NONE);
    due("one more in each of two numbers", full.feed(0, 0, 0, 1, 1), NONE);
    due("one more in each of two numbers", full.feed(1, 0, 0, 0, 1), NONE);
    due("twenty more", full.feed(-1, -1, -1, -1, -1), NONE);
    due("bytes", full.count(3), 159);
    due("one more", full.feed(0x0100, 0, 0, 0, 0), 160);
    due("one more", full.feed(0, 0, 0, 0x80000000, 0), NONE);
    due("none more", full.feed(0, 0, 0, 0, 0), 160);
    due("bytes", full.count(3), 160);
  }

  private static void end() {
    Check.says("The TAPE has its first n bytes alone");
    HuntTable t = new HuntTable();
    Check.put(t, "p;p;b#bs2");
    Check.due("end(9), all of them", t.end(9), true);
    due("bytes", t.count(3), 9);
    Check.due("end(5)", t.end(5), true);
    due("bytes", t.count(3), 5);
    due("p;p;b", t.fault(0), NONE);
    due("what comes then stands behind it", t.feed(';' << 24 | 'b' << 16, 0, 0, 0, 0), 7);
    due("p;p;b;b", t.text(0), 2);
    Check.put(t, "y:1");
    Check.due("end(0)", t.end(0), true);
    due("bytes", t.count(3), 0);
    due("empty", t.fault(1), 0);

    Check.says("False: n");
    Check.put(t, "y:1");
    for (int n : new int[] {4, 5, 160, 161, Integer.MAX_VALUE, -1, -2, Integer.MIN_VALUE}) {
      Check.due("end(" + n + ")", t.end(n), false);
      due("bytes", t.count(3), 3);
    }
    HuntTable empty = new HuntTable();
    Check.due("end(0) of none", empty.end(0), true);
    Check.due("end(1) of none", empty.end(1), false);
  }

  /** The orders of all bands by a seed, with whole numbers without bounds. */
  private static int[] drawn(long seed, int places, int bands) {
    BigInteger round = BigInteger.ONE.shiftLeft(64);
    BigInteger x = BigInteger.valueOf(seed).mod(round);
    int[] orders = new int[bands];
    for (int band = 0; band < bands; band++) {
      StringBuilder order = new StringBuilder("012345".substring(0, places));
      for (int i = places - 1; i >= 1; i--) {
        x = x.multiply(new BigInteger("6364136223846793005")).add(new BigInteger("1442695040888963407")).mod(round);
        int j = x.shiftRight(33).mod(BigInteger.valueOf(i + 1)).intValueExact();
        char kept = order.charAt(i);
        order.setCharAt(i, order.charAt(j));
        order.setCharAt(j, kept);
      }
      orders[band] = Integer.parseInt(order.toString());
    }
    return orders;
  }

  private static void afternoon() {
    Check.says("An AFTERNOON by a seed: each BAND by numbers has an ORDER drawn (64 bits, going round, without sign)");
    long[] seeds = {0, 1, -1, 2, 7, 1L << 31, 1L << 32, -(1L << 33), Integer.MAX_VALUE, Integer.MIN_VALUE, Long.MAX_VALUE,
        Long.MIN_VALUE, Long.MAX_VALUE - 1, Long.MIN_VALUE + 1, 0x123456789abcdefL};
    for (int places = 2; places <= 6; places++) {
      for (int bands = 1; bands <= 6; bands++) {
        HuntTable t = Check.hunt("p;".repeat(places) + "b;".repeat(bands) + "l");
        for (long seed : seeds) {
          t.drawn(seed);
          int[] orders = drawn(seed, places, bands);
          for (int band = 0; band < bands; band++) {
            due("ORDER of " + band + " by " + seed, t.band(band, 1), orders[band]);
          }
        }
      }
    }

    Check.says("from PLACES by numbers, whatever ORDERS there were");
    HuntTable t = Check.hunt("p;p;p;p;b;b");
    t.drawn(5);
    int once = t.band(0, 1);
    t.order(0, 3210);
    t.drawn(5);
    due("the same again", t.band(0, 1), once);
    t.start(1, 9);
    t.drawn(6);
    due("STARTS stay", t.band(1, 2), 9);
  }

  private static void acts() {
    Check.says("ORDERS that are told, drawn, are ACTS");
    HuntTable t = Check.hunt("p;p;p;b;b");
    due("at first", t.count(8), 0);
    due("told", t.order(0, 210), 1);
    due("drawn for all is one", t.drawn(1), 2);
    due("told as it was", t.order(1, t.band(1, 1)), 3);
    t.start(0, 5);
    t.image();
    t.find(0, 0, 0, true);
    t.worth(NONE);
    due("START, IMAGE, FOUND, WORTH are none", t.count(8), 3);
    t.order(0, 211);
    t.order(2, 210);
    due("what is refused is none", t.count(8), 3);

    Check.says("the latest (40 at most) can be UNDONE");
    HuntTable many = Check.hunt("p;p;p;p;b");
    int[] orders = {123, 132, 213, 231, 312, 321, 1023};
    for (int act = 1; act <= 100; act++) {
      due("ACTS", many.order(0, orders[act % 7]), Math.min(act, 40));
    }
    for (int act = 99; act >= 60; act--) {
      due("undo()", many.undo(), act - 60);
      due("the ORDER ahead", many.band(0, 1), orders[act % 7]);
    }
    due("the 41st", many.undo(), NONE);
    due("it stays", many.band(0, 1), orders[60 % 7]);
    HuntTable exactly = Check.hunt("p;p;b");
    for (int act = 1; act <= 40; act++) {
      due("ACTS", exactly.order(0, 10), act);
    }
    for (int act = 39; act >= 0; act--) {
      due("undo()", exactly.undo(), act);
    }
    due("all forty: the first ORDER", exactly.band(0, 1), 1);
    due("no more", exactly.undo(), NONE);
  }

  private static void undone() {
    Check.says("UNDONE: all ORDERS as ahead of it");
    HuntTable t = Check.hunt("p;p;p;p;b;b;b");
    t.order(1, 3210);
    t.drawn(99);
    t.start(2, 8);
    due("undo()", t.undo(), 1);
    due("of 0", t.band(0, 1), 123);
    due("of 1", t.band(1, 1), 3210);
    due("of 2", t.band(2, 1), 2301);
    due("STARTS stay", t.band(2, 2), 8);
    due("undo()", t.undo(), 0);
    due("of 1", t.band(1, 1), 1230);
    due("undo() of none", t.undo(), NONE);
    due("an ACT behind it", t.order(0, 321), 1);
    due("undo()", t.undo(), 0);
    due("of 0", t.band(0, 1), 123);
  }

  private static void image() {
    Check.says("An IMAGE keeps ORDERS, STARTS; BACK: they are so again");
    HuntTable t = Check.hunt("p;p;p;b;b");
    t.order(0, 210);
    t.start(1, 99);
    due("image()", t.image(), 1);
    t.order(0, 12);
    t.drawn(3);
    t.start(1, 0);
    t.start(0, 4);
    due("back()", t.back(), 0);
    due("ORDER of 0", t.band(0, 1), 210);
    due("ORDER of 1", t.band(1, 1), 120);
    due("START of 0", t.band(0, 2), 0);
    due("START of 1", t.band(1, 2), 99);

    Check.says("no ACT can be UNDONE then");
    due("ACTS", t.count(8), 0);
    due("undo()", t.undo(), NONE);
    due("an ACT behind it", t.order(1, 12), 1);
    due("undo()", t.undo(), 0);
    due("as BACK left it", t.band(1, 1), 120);

    Check.says("BACK can be gone again and again");
    t.order(0, 12);
    due("back()", t.back(), 0);
    due("ORDER of 0", t.band(0, 1), 210);
    due("back() at once", t.back(), 0);
    due("ORDER of 0", t.band(0, 1), 210);

    Check.says("an IMAGE (instead of the one ahead)");
    t.order(0, 102);
    t.start(0, 7);
    due("image()", t.image(), 1);
    due("an ACT ahead of it can be UNDONE", t.undo(), 0);
    t.start(0, 8);
    due("back()", t.back(), 0);
    due("ORDER of 0", t.band(0, 1), 102);
    due("START of 0", t.band(0, 2), 7);

    Check.says("BACK changes ORDERS and STARTS alone");
    t.find(0, 0, 0, true);
    Check.addWorth(t, "y:1");
    Check.put(t, "ab");
    due("back()", t.back(), 0);
    due("FOUND", t.count(7), 1);
    due("WORTHS", t.count(2), 1);
    due("which holds", t.count(6), 0);
    due("bytes", t.count(3), 2);

    Check.says("NONE: no IMAGE of this HUNT");
    HuntTable none = Check.hunt("p;p;b");
    none.order(0, 10);
    due("back()", none.back(), NONE);
    due("again()", none.again(), NONE);
    due("the ORDER stays", none.band(0, 1), 10);
    due("the ACT stays", none.count(8), 1);
    none.image();
    Check.put(none, "p;p;b");
    none.text(0);
    due("back(), told the same again", none.back(), NONE);
    due("again(), told the same again", none.again(), NONE);
  }

  private static void again() {
    Check.says("AGAIN: BANDS and TURNS with the PLACE that they have in the IMAGE: how many");
    HuntTable t = Check.hunt("p;p;p;b;b");
    t.image();
    due("all", t.again(), 6);
    t.order(0, 210);
    due("one of BAND 0", t.again(), 4);
    t.order(1, 201);
    due("none of BAND 1", t.again(), 1);
    t.order(0, 120);
    due("none", t.again(), 0);
    t.start(0, 50);
    due("STARTS do not count", t.again(), 0);
    HuntTable six = Check.hunt("p;p;p;p;p;p;b;b;b;b;b;b");
    six.image();
    due("all of six", six.again(), 36);
  }

  private static void anotherHunt() {
    Check.says("The TAPE (empty then) is the HUNT: how many BANDS");
    HuntTable t = new HuntTable();
    for (int bands = 1; bands <= 6; bands++) {
      Check.put(t, "p;p" + ";b".repeat(bands));
      due("text(0)", t.text(0), bands);
      due("bytes", t.count(3), 0);
    }

    Check.says("STARTS, FOUND, IMAGE of another one are gone");
    t.start(5, 44);
    t.order(5, 1);
    t.find(5, 1, 1, true);
    t.image();
    Check.put(t, "p;p;b;b;b;b;b;b");
    due("text(0) of the same", t.text(0), 6);
    due("START", t.band(5, 2), 0);
    due("ORDER", t.band(5, 1), 10);
    due("FOUND", t.count(7), 0);
    due("fits(5)", t.fits(5), 2);
    due("back()", t.back(), NONE);
    due("again()", t.again(), NONE);
    due("ACTS", t.count(8), 0);
    due("undo()", t.undo(), NONE);

    Check.says("TABLES are those of the HUNT that is told");
    HuntTable other = Check.hunt("p;p;p;b");
    due("six", other.tables(NONE, 0), 6);
    Check.put(other, "p;p;b;b");
    due("text(0)", other.text(0), 2);
    due("two", other.tables(NONE, 0), 2);
    due("of BAND 1", other.tables(1, 1), 1);

    Check.says("WORTHS, which holds, stay");
    Check.addWorth(t, "y:3");
    Check.addWorth(t, "y:4");
    t.worth(0);
    Check.put(t, "p;p;p;b");
    due("text(0)", t.text(0), 1);
    due("WORTHS", t.count(2), 2);
    due("which holds", t.count(6), 0);
    due("points(0)", t.points(0), 9);
    HuntTable early = new HuntTable();
    Check.addWorth(early, "y:5");
    Check.put(early, "p;p;b");
    early.text(0);
    due("told and holding ahead of a HUNT", early.points(0), 10);
  }

  private static void count() {
    Check.says("4 how often one may FOLLOW, 5 STAY (0 without a HUNT both)");
    HuntTable t = new HuntTable();
    due("count(4)", t.count(4), 0);
    due("count(5)", t.count(5), 0);
    Check.put(t, "p;p");
    t.text(0);
    due("count(4), the HUNT being refused", t.count(4), 0);
    due("count(5), the HUNT being refused", t.count(5), 0);
    Check.put(t, "p;p;b");
    t.text(0);
    due("count(4)", t.count(4), 1);
    due("count(5)", t.count(5), 5);

    Check.says("HIDDEN for others");
    for (int what : new int[] {Integer.MIN_VALUE, -1000000, -2, -1, 9, 10, Integer.MAX_VALUE}) {
      due("count(" + what + ")", t.count(what), -1000000);
    }
    due("count(8)", t.count(8), 0);
  }
}
