/** Minutes on the way, who clashes, starts, the best orders of one: for each sentence with an edge a test. */
public final class ClockEdgesTest {
  private static final int NONE = -1;
  private static final int HIDDEN = -1000000;

  public static void main(String[] args) {
    starting();
    ways();
    clash();
    clashes();
    starts();
    soonest();
    rich();
    Check.finish();
  }

  private static void due(String call, long got, long want) {
    Check.due(call, got, want);
  }

  private static void starting() {
    Check.says("its START (0 .. 99; 0 at first)");
    HuntTable t = Check.hunt("p;p;b;b");
    due("at first", t.band(1, 2), 0);
    int latest = 0;
    for (int minute = -3; minute <= 103; minute++) {
      boolean sound = minute >= 0 && minute <= 99;
      Check.due("start(1, " + minute + ")", t.start(1, minute), sound);
      latest = sound ? minute : latest;
      due("START", t.band(1, 2), latest);
      due("COMES", t.comes(1, 0), latest);
    }
    due("of the other one", t.band(0, 2), 0);
  }

  private static void ways() {
    Check.says("from PLACE to PLACE it goes as many steps as they are apart by x and by y together");
    HuntTable t = Check.hunt("px3y9;px7y2;b;b;lk0");
    due("from the gate", t.comes(0, 0), 12);
    due("x rises, y falls", t.comes(0, 1), 12 + 11);
    due("from the gate", t.comes(1, 0), 9);
    due("x falls, y rises", t.comes(1, 1), 9 + 11);
    due("two PLACES at one spot", Check.hunt("px3y9;px3y9;b;lk0").comes(0, 1), 12);
    due("the gate's own spot", Check.hunt("p;p;b;lk0").comes(0, 1), 0);

    Check.says("SLOW minutes each");
    for (int slow = 1; slow <= 5; slow++) {
      HuntTable s = Check.hunt("px20y20;p;bs" + slow + ";lk0");
      due("the farthest by " + slow, s.comes(0, 0), 40 * slow);
      due("and back by " + slow, s.comes(0, 1), 80 * slow);
    }

    Check.says("it STAYS at each");
    for (int stay : new int[] {0, 1, 29, 30}) {
      HuntTable s = Check.hunt("px1;px2;px3;b;lk" + stay);
      due("not ahead of the first", s.comes(0, 0), 1);
      due("at the first", s.comes(0, 1), 2 + stay);
      due("at two", s.comes(0, 2), 3 + 2 * stay);
      due("at the last too", s.home(0), 3 + 3 * stay + 3);
    }

    Check.says("HOME: when it is back at the gate");
    due("where the last PLACE is the gate's spot", Check.hunt("px9;p;b;lk0").home(0), 18);
    HuntTable most = Check.hunt("p;px20y20;p;px20y20;p;px20y20;bs5;lk30");
    most.start(0, 99);
    due("the latest of all", most.home(0), 99 + 6 * 200 + 6 * 30);
  }

  /** Two bands at the gate's spot that go 0, 1 and 1, 0, five minutes each; the one starts at 0, the other later. */
  private static HuntTable later(int minute) {
    HuntTable t = Check.hunt("p;p;b;b;lk5");
    t.start(1, minute);
    return t;
  }

  private static void clash() {
    Check.says("the minutes of both there (from when it COMES on, before it goes) have one in common");
    for (int minute = 0; minute <= 20; minute++) {
      boolean clash = minute >= 1 && minute <= 9;
      due("the other starts at " + minute, later(minute).clashes(0), clash ? 1 : 0);
      due("the first minute", later(minute).clashes(1), clash ? Math.max(5, minute) : NONE);
      HuntTable other = later(0);
      other.start(0, minute);
      due("the one starts at " + minute, other.clashes(0), clash ? 1 : 0);
      due("the first minute", other.clashes(1), clash ? Math.max(5, minute) : NONE);
    }
    HuntTable one = Check.hunt("p;p;b;b;lk1");
    due("a STAY of 1: minute 0 and minute 1", one.clashes(0), 0);
    one.start(1, 1);
    due("a STAY of 1: minute 1 both", one.clashes(1), 1);
    one.start(1, 2);
    due("a STAY of 1: minute 1 and minute 2", one.clashes(1), NONE);

    Check.says("with a STAY of 0 none");
    HuntTable none = Check.hunt("p;p;b;b;b;b;b;b;lk0");
    due("though all are at one spot", none.clashes(0), 0);
    due("though all are at one spot", none.clashes(1), NONE);
    due("starts", none.starts(0, 0), HIDDEN);
    due("soonest", none.soonest(5, 1), 0);
    HuntTable four = Check.hunt("p;p;b;b;b;b;lk0");
    due("starts", four.starts(0, 0), 0);
    due("starts", four.starts(0, 1), 0);
  }

  private static void clashes() {
    Check.says("CLASHES: pairs of BANDS that CLASH somewhere: how many");
    HuntTable six = Check.hunt("px1;p;b;b;b;b;b;b;lk1");
    for (int band = 1; band < 6; band++) {
      six.order(band, 1);
    }
    due("all alike, each pair once though at both PLACES", six.clashes(0), 15);
    six.start(5, 50);
    due("less those with one", six.clashes(0), 10);
    due("one alone", Check.hunt("p;p;b").clashes(0), 0);

    Check.says("the first minute at which some two do");
    due("by the others", six.clashes(1), 1);
    due("one alone: none", Check.hunt("p;p;b").clashes(1), NONE);
    HuntTable second = Check.hunt("px5;p;b;b;b;b;lk3");
    second.order(1, 1);
    second.order(2, 10);
    second.start(0, 40);
    second.start(2, 21);
    second.start(3, 20);
    due("2 and 3 at PLACE 1", second.clashes(1), 21);
    due("one pair", second.clashes(0), 1);
    second.start(0, 4);
    second.start(1, 3);
    due("0 and 1 at PLACE 0", second.clashes(1), 9);
    due("two pairs", second.clashes(0), 2);
  }

  private static void starts() {
    Check.says("STARTS (4 BANDS at most)");
    for (int bands = 1; bands <= 6; bands++) {
      HuntTable t = Check.hunt("p;p;" + "b;".repeat(bands) + "lk0");
      due("how much of " + bands, t.starts(0, 0), bands <= 4 ? 0 : HIDDEN);
      due("the row of " + bands, t.starts(9, 1), bands <= 4 ? 0 : HIDDEN);
    }

    Check.says("from 0 to most (0 .. 9)");
    for (int stay = 0; stay <= 12; stay++) {
      HuntTable t = Check.hunt("p;p;b;b;lk" + stay);
      t.order(1, 1);
      for (int most = -2; most <= 11; most++) {
        boolean can = most >= stay && most >= 0 && most <= 9;
        due("two alike, STAY " + stay + ", most " + most, t.starts(most, 0), can ? stay : NONE);
        due("the row, STAY " + stay + ", most " + most, t.starts(most, 1), can ? stay : NONE);
      }
    }

    Check.says("the least together (of several the least as digits to the base 10, BAND 0 the highest)");
    HuntTable four = Check.hunt("p;p;b;b;b;b;lk1");
    due("none up to 1", four.starts(1, 0), NONE);
    due("none up to 1", four.starts(1, 1), NONE);
    due("0 0 2 2, 0 2 2 0, 2 0 0 2, 2 2 0 0: how much", four.starts(2, 0), 4);
    due("0 0 2 2, 0 2 2 0, 2 0 0 2, 2 2 0 0: the row", four.starts(2, 1), 22);
    due("the same up to 9", four.starts(9, 0), 4);
    due("the same up to 9", four.starts(9, 1), 22);
    HuntTable first = Check.hunt("px1;px2;b;bs2;lk3");
    due("2 0 is less together than 0 4: none up to 1", first.starts(1, 0), NONE);
    due("2 0 is less together than 0 4: how much", first.starts(9, 0), 2);
    due("2 0 is less together than 0 4: the row", first.starts(9, 1), 20);
    HuntTable wide = Check.hunt("px1;px3;b;bs4;lk10");
    due("9 0 alone: none up to 8", wide.starts(8, 0), NONE);
    due("9 0 alone: how much", wide.starts(9, 0), 9);
    due("9 0 alone: the row", wide.starts(9, 1), 90);
    HuntTable either = Check.hunt("px1;px2;b;bs2;lk2");
    due("0 2 or 2 0: how much", either.starts(9, 0), 2);
    due("0 2 or 2 0: the row", either.starts(9, 1), 2);

    Check.says("STARTS that are told do not count, and stay");
    four.start(0, 99);
    four.start(3, 7);
    due("the row", four.starts(9, 1), 22);
    due("START", four.band(0, 2), 99);
    due("START", four.band(3, 2), 7);
  }

  private static void soonest() {
    Check.says("SOONEST: not CLASHING with any other one");
    HuntTable t = Check.hunt("px1;px3;b;b;lk2");
    due("minutes 5 and 6 behind minutes 3 and 4", t.soonest(0, 0), 1);
    due("when", t.soonest(0, 1), 10);
    t.start(1, 1);
    due("none: 01 by minute 5, 10 by minute 4", t.soonest(0, 0), NONE);
    due("none", t.soonest(0, 1), NONE);
    t.start(1, 2);
    due("10, minutes 3 and 4 ahead of minutes 5 and 6", t.soonest(0, 0), 10);
    due("when", t.soonest(0, 1), 10);
    due("the ORDER stays", t.band(0, 1), 1);
    HuntTable others = Check.hunt("px9;p;b;b;b;lk1");
    others.order(1, 1);
    others.order(2, 1);
    others.start(0, 90);
    due("others that clash do not count", others.soonest(0, 1), 90 + 18 + 2);

    Check.says("SOONEST: of several the least");
    due("all alike", Check.hunt("p;p;p;p;p;p;b").soonest(0, 0), 12345);
    due("02, 12 ahead of 20, 21", Check.hunt("px2;px2;px4;b").soonest(0, 0), 12);
    HuntTable line = Check.hunt("px5;px1;px3;b;lk0");
    due("021, 120, 201: the least", line.soonest(0, 0), 21);
    line.order(0, 210);
    due("whatever ORDER it has", line.soonest(0, 0), 21);

    Check.says("SOONEST: none");
    HuntTable none = Check.hunt("p;p;b;b;b;lk30");
    due("the ORDER", none.soonest(2, 0), NONE);
    due("when", none.soonest(2, 1), NONE);
    none.start(2, 60);
    due("behind all others", none.soonest(2, 1), 120);
    none.start(2, 59);
    due("a minute too soon", none.soonest(2, 1), NONE);
  }

  /** The least order of four places by which a band that meets nobody has most points. */
  private static int leastWithMost(HuntTable t, int band) {
    int best = NONE;
    int most = Integer.MIN_VALUE;
    for (int order = 123; order <= 3210; order++) {
      if (t.order(band, order) != NONE) {
        boolean meets = false;
        for (int turn = 0; turn < 4; turn++) {
          for (int other = 0; other < 3; other++) {
            meets |= other != band && t.at(other, turn) == t.at(band, turn);
          }
        }
        if (!meets && t.points(band) > most) {
          best = order;
          most = t.points(band);
        }
        t.undo();
      }
    }
    return best;
  }

  private static void rich() {
    Check.says("RICH: MEETING none, by TURNS");
    HuntTable t = Check.hunt("p;p;b;b");
    Check.addWorth(t, "y:t*p");
    due("01 beside 10", t.rich(0, 0), 1);
    due("how much", t.rich(0, 1), 1);
    t.order(1, 1);
    due("10 beside 01", t.rich(0, 0), 10);
    due("how much", t.rich(0, 1), 0);
    t.order(1, 10);
    t.start(1, 1);
    due("who clash by the clock need not meet", t.clashes(0), 1);
    due("01 beside 10", t.rich(0, 0), 1);

    for (int turn = 0; turn < 3; turn++) {
      HuntTable one = Check.hunt("p;p;p;b;b");
      one.order(0, 12);
      Check.addWorth(one, "y:t=" + turn + "&p=" + turn + "?5");
      due("BAND 1 not where BAND 0 is in TURN " + turn, one.rich(1, 1), 0);
      due("BAND 0 not where BAND 1 is", one.rich(0, 1), 5);
      due("the least beside 012", one.rich(1, 0), 120);
    }

    Check.says("RICH: most POINTS, by its minutes and steps from the gate on");
    for (String worth : new String[] {"y:m", "y:0-m", "y:d*t", "y:t=0?d*100+p;y:t=3?m", "y:0-m*d+p*b"}) {
      HuntTable both = Check.hunt("px3y9;px7y2;px20;py5;bs3;b;bs2;lk7");
      both.start(0, 21);
      both.start(2, 4);
      Check.addWorth(both, worth);
      for (int band = 0; band < 3; band++) {
        int most = both.rich(band, 1);
        due("the least of those with most, by trying all", both.rich(band, 0), leastWithMost(both, band));
        both.order(band, both.rich(band, 0));
        due("POINTS by that ORDER", both.points(band), most);
      }
    }

    Check.says("RICH: likewise, of several the least");
    due("without a WORTH", Check.hunt("p;p;p;p;p;p;b").rich(0, 0), 12345);
    due("0 without a WORTH", Check.hunt("p;p;p;p;p;p;b").rich(0, 1), 0);
    HuntTable several = Check.hunt("p;p;p;b");
    Check.addWorth(several, "y:t=2&p=1?5");
    due("021 and 201", several.rich(0, 0), 21);
    Check.addWorth(several, "y:t=0&p=2?5");
    due("201 and 210", several.rich(0, 0), 201);
    Check.addWorth(several, "y:0-t*p");
    due("less than 0 too", several.rich(0, 0), 210);
    due("less than 0 too", several.rich(0, 1), -1);

    Check.says("RICH: none");
    HuntTable none = Check.hunt("p;p;b;b;b");
    due("the ORDER", none.rich(2, 0), HIDDEN);
    due("how much", none.rich(2, 1), HIDDEN);
    none.order(1, 1);
    due("10 beside two of 01", none.rich(2, 0), 10);
  }
}
