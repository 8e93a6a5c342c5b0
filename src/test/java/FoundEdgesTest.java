/** What is found, what fits, tables, who goes wrong, helpers, pieces: for each sentence with an edge a test. */
public final class FoundEdgesTest {
  private static final int NONE = -1;
  private static final int HIDDEN = -1000000;

  public static void main(String[] args) {
    found();
    fits();
    tablesOfMany();
    tablesInOrder();
    wrong();
    helpers();
    pieces();
    Check.finish();
  }

  private static void due(String call, long got, long want) {
    Check.due(call, got, want);
  }

  private static void found() {
    Check.says("FOUND (20 at most)");
    HuntTable t = Check.hunt("p;p;p;p;p;p;b");
    due("at first", t.count(7), 0);
    for (int i = 1; i <= 20; i++) {
      due("find, the same again and again", t.find(0, 0, 5, false), i);
      due("FOUND", t.count(7), i);
    }
    due("a 21st", t.find(0, 1, 1, true), NONE);
    due("FOUND", t.count(7), 20);
    due("the 21st is not so", t.fits(0), 600);
    Check.put(t, "p;p;b");
    t.text(0);
    due("FOUND of another HUNT is gone", t.count(7), 0);
    due("there is room again", t.find(0, 0, 0, true), 1);

    Check.says("a BAND was at a PLACE in a TURN");
    HuntTable was = Check.hunt("p;p;p;b;b");
    was.find(1, 0, 2, true);
    due("201, 210", was.fits(1), 2);
    due("of another BAND nothing", was.fits(0), 6);
    was.find(1, 2, 0, true);
    due("210", was.fits(1), 1);

    Check.says("or was not");
    HuntTable not = Check.hunt("p;p;p;b;b");
    not.find(0, 2, 0, false);
    due("012, 021, 102, 201", not.fits(0), 4);
    due("of another BAND nothing", not.fits(1), 6);
    not.find(0, 2, 1, false);
    due("012, 102", not.fits(0), 2);
    not.find(0, 2, 2, false);
    due("nowhere", not.fits(0), 0);
  }

  private static void fits() {
    Check.says("ORDERS that FIT a BAND: how many of all");
    int all = 1;
    for (int places = 2; places <= 6; places++) {
      all *= places;
      due("of " + places, Check.hunt("p;".repeat(places) + "b").fits(0), all);
    }

    Check.says("agree with what is FOUND of it");
    HuntTable t = Check.hunt("p;p;p;p;p;p;b;b");
    t.find(0, 0, 0, true);
    due("120 of 720", t.fits(0), 120);
    t.find(0, 0, 0, false);
    due("so and not so", t.fits(0), 0);
    t.find(1, 5, 5, true);
    t.find(1, 4, 5, true);
    due("at one PLACE in two TURNS", t.fits(1), 0);
    t.order(1, 543210);
    due("whatever ORDER it has", t.fits(1), 0);
    HuntTable two = Check.hunt("p;p;b");
    two.find(0, 0, 0, false);
    two.find(0, 1, 0, false);
    due("a PLACE at which it never was", two.fits(0), 0);
  }

  private static void tablesOfMany() {
    Check.says("TABLES (5 PLACES and 5 BANDS at most)");
    for (int places = 2; places <= 6; places++) {
      for (int bands = 1; bands <= 6; bands++) {
        HuntTable t = Check.hunt("p;".repeat(places) + "b;".repeat(bands) + "lf0");
        boolean small = places <= 5 && bands <= 5;
        due("how many of " + places + " and " + bands + " are told", t.tables(NONE, 0) == HIDDEN ? 0 : 1, small ? 1 : 0);
        due("the order of " + places + " and " + bands + " is told", t.tables(0, 0) == HIDDEN ? 0 : 1, small ? 1 : 0);
      }
    }
    due("six PLACES and no such BAND", Check.hunt("p;p;p;p;p;p;b").tables(0, 6), HIDDEN);

    Check.says("LAWFUL ones");
    due("one alone, any ORDER", Check.hunt("p;p;p;b;lf0").tables(NONE, 0), 6);
    due("two, one may not FOLLOW", Check.hunt("p;p;b;b;lf0").tables(NONE, 0), 0);
    due("two, one may FOLLOW once", Check.hunt("p;p;b;b;lf1").tables(NONE, 0), 2);
    due("three at two PLACES", Check.hunt("p;p;b;b;b;lf9").tables(NONE, 0), 0);
    due("two of three: 012 with 120, 201, twice FOLLOWING", Check.hunt("p;p;p;b;b;lf1").tables(NONE, 0), 0);
    due("two of three: 012 with 120, 201", Check.hunt("p;p;p;b;b;lf2").tables(NONE, 0), 12);
    due("three of three", Check.hunt("p;p;p;b;b;b;lf2").tables(NONE, 0), 12);
    due("four of four", Check.hunt("p;p;p;p;b;b;b;b;lf3").tables(NONE, 0), 576);
    int[][] four = {{24, 24, 24, 24}, {24, 144, 168, 216}, {0, 144, 432, 576}, {0, 144, 432, 576}};
    for (int bands = 1; bands <= 4; bands++) {
      for (int may = 0; may <= 3; may++) {
        HuntTable t = Check.hunt("p;p;p;p;" + "b;".repeat(bands) + "lf" + may);
        due(bands + " of four, FOLLOWING " + may + " times", t.tables(NONE, 0), four[bands - 1][may]);
      }
    }
    due("five of five, once", Check.hunt("p;p;p;p;p;b;b;b;b;b;lf1").tables(NONE, 0), 0);

    Check.says("1,000 tables at most are counted");
    due("one BAND of five", Check.hunt("p;p;p;p;p;b").tables(NONE, 0), 120);
    HuntTable many = Check.hunt("p;p;p;p;p;b;b;lf9");
    due("1,000 of 5,280", many.tables(NONE, 0), 1000);
    due("the first of them, BAND 0", many.tables(0, 0), 1234);
    due("the first of them, BAND 1", many.tables(0, 1), 10342);
    due("the last of 44, BAND 0", many.tables(43, 0), 1234);
    due("the next one, BAND 0", many.tables(44, 0), 1243);
    due("the last counted, BAND 0", many.tables(999, 0), 4312);
    due("no more", many.tables(1000, 0), NONE);
    due("no more", many.tables(5279, 0), NONE);
    many.find(0, 0, 4, true);
    due("24 times 44 are too many still", many.tables(NONE, 0), 1000);
    many.find(1, 0, 0, true);
    due("24 times 11", many.tables(NONE, 0), 264);
    due("the last", many.tables(263, 0), 43210);
    due("no more", many.tables(264, 0), NONE);
  }

  private static void tablesInOrder() {
    Check.says("by which all that is FOUND is so");
    HuntTable t = Check.hunt("p;p;p;b;b;lf9");
    t.find(0, 0, 1, true);
    due("two ORDERS of BAND 0", t.tables(NONE, 0), 4);
    t.find(1, 2, 1, false);
    due("BAND 1 not at 1 in TURN 2, so in TURN 1", t.tables(NONE, 0), 2);
    due("102 with 210", t.tables(0, 1), 210);
    due("120 with 012", t.tables(1, 1), 12);
    t.find(1, 0, 1, true);
    due("both at 1 in TURN 0", t.tables(NONE, 0), 0);
    due("no such one", t.tables(0, 0), NONE);
    HuntTable told = Check.hunt("p;p;b;b");
    told.order(1, 1);
    due("ORDERS that are told do not count", told.tables(NONE, 0), 2);
    due("ORDERS that are told stay", told.band(1, 1), 1);

    Check.says("the ORDER of a BAND in the i-th one (by ORDERS of BAND 0, then 1, .., rising)");
    due("asked for ahead of how many", Check.hunt("p;p;p;b;lf9").tables(5, 0), 210);
    HuntTable three = Check.hunt("p;p;p;b;b;b;lf9");
    int[][] rows = {{12, 120, 201}, {12, 201, 120}, {21, 102, 210}, {21, 210, 102}, {102, 21, 210}, {102, 210, 21},
        {120, 12, 201}, {120, 201, 12}, {201, 12, 120}, {201, 120, 12}, {210, 21, 102}, {210, 102, 21}};
    due("how many", three.tables(NONE, 0), rows.length);
    for (int i = 0; i < rows.length; i++) {
      for (int band = 0; band < 3; band++) {
        due("tables(" + i + ", " + band + ")", three.tables(i, band), rows[i][band]);
      }
    }
    due("tables(12, 0)", three.tables(12, 0), NONE);
    due("tables(0, 3)", three.tables(0, 3), NONE);

    Check.says("how many (i NONE; any band)");
    int[] any = {Integer.MIN_VALUE, -1, 0, 2, 3, 6, Integer.MAX_VALUE};
    for (int band : any) {
      due("tables(NONE, " + band + ")", three.tables(NONE, band), rows.length);
    }
  }

  private static void wrong() {
    Check.says("WRONG: a BAND goes in one TURN to another PLACE than by its ORDER");
    HuntTable t = Check.hunt("p;p;p;b;b;b;lf9");
    for (int band = 0; band < 3; band++) {
      for (int turn = 0; turn < 3; turn++) {
        for (int place = 0; place < 3; place++) {
          boolean same = t.at(band, turn) == place;
          String call = "wrong(" + band + ", " + turn + ", " + place + ", ";
          due(call + "0) is NONE", t.wrong(band, turn, place, 0) == NONE ? 1 : 0, same ? 1 : 0);
          due(call + "1) is NONE", t.wrong(band, turn, place, 1) == NONE ? 1 : 0, same ? 1 : 0);
        }
      }
    }

    Check.says("BANDS (bits) that it MEETS then");
    due("1 in the first TURN", t.wrong(0, 0, 1, 0), 2);
    due("2 in the first TURN", t.wrong(0, 0, 2, 0), 4);
    due("0 in the last TURN", t.wrong(2, 2, 2, 0), 1);
    due("none", Check.hunt("p;p;p;b;b").wrong(0, 0, 2, 0), 0);
    due("one alone", Check.hunt("p;p;b").wrong(0, 0, 1, 0), 0);
    HuntTable all = Check.hunt("p;p;b;b;b;b;b;b");
    due("three others", all.wrong(0, 0, 1, 0), 42);
    due("not itself, not whom it meets by its ORDER", all.wrong(5, 1, 1, 0), 21);

    Check.says("how often it FOLLOWS others in all");
    due("in TURN 0 none: 0 follows 1 twice, 2 never", t.wrong(0, 0, 1, 1), 2);
    due("to 2 in TURN 1, where 2 was; 2 in TURN 2, where 1 was", t.wrong(0, 1, 2, 1), 2);
    due("to 0 in TURN 1: where 0 itself was", t.wrong(0, 1, 0, 1), 1);
    due("to 0 in TURN 2: 1 in TURN 1, 2 in TURN 2", t.wrong(0, 2, 0, 1), 2);
    due("to 1 in TURN 2: 1 in TURN 1, itself in TURN 2", t.wrong(0, 2, 1, 1), 1);
    due("to 1 in TURN 1: where 1 itself was; 0 in TURN 2, where 2 was", t.wrong(1, 1, 1, 1), 1);
    due("to 2 in TURN 1: where 2 itself was; 1 in TURN 2, where 0 was", t.wrong(2, 1, 2, 1), 1);
    due("to 0 in TURN 1: two others at once", all.wrong(0, 1, 0, 1), 2);
    due("three others at once by its ORDER, none by its way", all.wrong(0, 0, 1, 1), 3);
    due("one alone", Check.hunt("p;p;b").wrong(0, 1, 0, 1), 0);

    Check.says("all else as it is");
    due("the ORDER stays", t.band(0, 1), 12);
    due("no ACT", t.count(8), 0);
    due("none MEET", t.crowd(0), NONE);
  }

  private static void helpers() {
    Check.says("no more than so many steps (0 .. 40)");
    HuntTable far = Check.hunt("p;px20y20;b");
    for (int steps = -3; steps <= 44; steps++) {
      int want = steps < 0 || steps > 40 ? NONE : steps < 40 ? 2 : 1;
      due("40 steps apart, by " + steps, far.helpers(steps), want);
    }
    HuntTable near = Check.hunt("px3y3;px4y5;b");
    for (int steps = 0; steps <= 40; steps++) {
      due("3 steps apart, by " + steps, near.helpers(steps), steps < 3 ? 2 : 1);
    }
    due("0 steps apart, by 0", Check.hunt("px3y3;px3y3;b").helpers(0), 1);

    Check.says("in each TURN a helper is at one PLACE (any), in the next one at a PLACE ..");
    HuntTable line = Check.hunt("p;px20;px10;b");
    due("20 in one TURN", line.helpers(20), 1);
    due("19: one goes from 0 over 2 TURNS to 2, another one is at 1", line.helpers(19), 2);
    due("10: likewise", line.helpers(10), 2);
    due("9: none goes", line.helpers(9), 3);
    line.order(0, 201);
    due("2, 0, 1 by 10: from 2 to 0; another one at 1", line.helpers(10), 2);
    line.order(0, 21);
    due("0, 2, 1 by 10: one does all", line.helpers(10), 1);
    HuntTable by = Check.hunt("p;px1;px2;px3;b");
    by.order(0, 321);
    due("0, 3, 2, 1 by 1: one at 0, one from 3 on", by.helpers(1), 2);
    by.order(0, 1230);
    due("1, 2, 3, 0 by 1: one over all, one at 0", by.helpers(1), 2);
    due("1, 2, 3, 0 by 3", by.helpers(3), 1);

    Check.says("several may be at one");
    due("six BANDS at two PLACES", Check.hunt("p;px1;b;b;b;b;b;b").helpers(0), 2);
    HuntTable fan = Check.hunt("p;px10;py10;px10y10;b;b");
    fan.order(0, 123);
    fan.order(1, 213);
    due("1 and 2 in TURN 1, 0 ahead of it: two start at 0", fan.helpers(10), 2);

    Check.says("the fewest so that in each TURN at each PLACE with a BAND one is");
    due("as many as PLACES, each full in each TURN", Check.hunt("p;p;p;p;p;p;b;b;b;b;b;b").helpers(40), 6);
    due("one goes with one BAND", Check.hunt("px1;px2;px3;px4;px5;px6;b").helpers(40), 1);
    due("each waits at its PLACE", Check.hunt("px1;px2;px3;px4;px5;px6;b").helpers(0), 6);
    HuntTable late = Check.hunt("px1;px2;px3;px4;px5;px6;b;b;b;b");
    int[] orders = {12345, 123045, 230145, 301245};
    for (int band = 0; band < 4; band++) {
      late.order(band, orders[band]);
    }
    due("4 and 5 in the last TURNS alone", late.helpers(0), 6);
    HuntTable way = Check.hunt("px3;px2;px1;px4;b;b");
    way.order(0, 1203);
    way.order(1, 3012);
    due("the nearest is not the right one: from 1 to 2, from 3 to 0", way.helpers(1), 2);
    HuntTable alike = Check.hunt("px1;px9;b;b;b");
    alike.order(1, 1);
    due("BANDS that go along need one", alike.helpers(8), 1);
  }

  private static void pieces() {
    HuntTable t = new HuntTable();
    Check.says("PIECES of a map for n (1 .. 10) bands, k (1 .. n)");
    for (int n = -2; n <= 13; n++) {
      for (int k = -2; k <= 13; k++) {
        boolean sound = n >= 1 && n <= 10 && k >= 1 && k <= n;
        for (int what = 0; what <= 2; what++) {
          String call = "pieces(" + n + ", " + k + ", " + what + ") is NONE";
          due(call, t.pieces(n, k, what) == NONE ? 1 : 0, sound ? 0 : 1);
        }
        due("pieces(" + n + ", " + k + ", -1)", t.pieces(n, k, -1), NONE);
      }
    }

    Check.says("any k of them have all, and no fewer");
    for (int n = 1; n <= 7; n++) {
      for (int k = 1; k <= n; k++) {
        int many = t.pieces(n, k, 0);
        for (int some = 0; some < 1 << n; some++) {
          boolean all = true;
          for (int i = 0; i < many; i++) {
            all &= (t.pieces(n, k, 2 + i) & some) != 0;
          }
          due("BANDS " + some + " of " + n + " by " + k, all ? 1 : 0, Integer.bitCount(some) >= k ? 1 : 0);
        }
      }
    }

    Check.says("one for each set of k less 1 bands, which all others have: how many; how many each has");
    int[] sets = {1, 10, 45, 120, 210, 252, 210, 120, 45, 10};
    int[] each = {1, 9, 36, 84, 126, 126, 84, 36, 9, 1};
    for (int k = 1; k <= 10; k++) {
      due("how many of ten by " + k, t.pieces(10, k, 0), sets[k - 1]);
      due("how many each of ten has by " + k, t.pieces(10, k, 1), each[k - 1]);
      due("the last one is had", t.pieces(10, k, 1 + sets[k - 1]) == NONE ? 1 : 0, 0);
      due("no more", t.pieces(10, k, 2 + sets[k - 1]), NONE);
    }

    Check.says("who has the i-th (bits; sets rising)");
    int[] others = {28, 26, 25, 22, 21, 19, 14, 13, 11, 7};
    for (int i = 0; i < others.length; i++) {
      due("of five by three the " + i + "-th", t.pieces(5, 3, 2 + i), others[i]);
    }
    due("by one all have it", t.pieces(10, 1, 2), 1023);
    due("by ten the last has the first", t.pieces(10, 10, 2), 512);
    due("by ten the first has the last", t.pieces(10, 10, 11), 1);
    due("far beyond", t.pieces(5, 3, Integer.MAX_VALUE), NONE);
  }
}
