import java.util.HashSet;
import java.util.Set;

/** Orders, who meets and who follows, tables by rule, slips, wells, sight: for each sentence with an edge a test. */
public final class TableEdgesTest {
  private static final int NONE = -1;

  public static void main(String[] args) {
    orders();
    firstOrders();
    meet();
    follow();
    lawful();
    crowd();
    even();
    slips();
    well();
    sight();
    points();
    Check.finish();
  }

  private static void due(String call, long got, long want) {
    Check.due(call, got, want);
  }

  private static String hunt(int places, int bands) {
    return "p;".repeat(places) + "b;".repeat(bands) + "l";
  }

  private static void orders() {
    Check.says("An ORDER of a BAND: all PLACES, each once");
    HuntTable three = Check.hunt("p;p;p;b");
    Set<Integer> sound = Set.of(12, 21, 102, 120, 201, 210);
    for (int order = -300; order <= 3300; order++) {
      due("of three: order(0, " + order + ") is refused", three.order(0, order) == NONE ? 1 : 0, sound.contains(order) ? 0 : 1);
    }
    HuntTable two = Check.hunt("p;p;b");
    for (int order = -20; order <= 120; order++) {
      due("of two: order(0, " + order + ") is refused", two.order(0, order) == NONE ? 1 : 0, order == 1 || order == 10 ? 0 : 1);
    }
    HuntTable six = Check.hunt("p;p;p;p;p;p;b");
    int[] refused = {12344, 12346, 123456, 654321, 1012345, 1234501, 543211, 5432100, 54320, 5432, -12345, -543210, 0,
        Integer.MIN_VALUE, Integer.MAX_VALUE, 1000012345, 2012345};
    for (int order : refused) {
      due("of six: order(0, " + order + ")", six.order(0, order), NONE);
    }
    due("the least of six", six.order(0, 12345), 1);
    due("the greatest of six", six.order(0, 543210), 2);

    Check.says("digits to the base 10, the first one the highest");
    due("201", three.order(0, 201) == NONE ? 1 : 0, 0);
    due("at(0, 0)", three.at(0, 0), 2);
    due("at(0, 1)", three.at(0, 1), 0);
    due("at(0, 2)", three.at(0, 2), 1);
    due("band(0, 1)", three.band(0, 1), 201);
    three.order(0, 12);
    due("a 0 ahead: at(0, 0)", three.at(0, 0), 0);
    due("a 0 ahead: at(0, 2)", three.at(0, 2), 2);
    due("a 0 ahead: band(0, 1)", three.band(0, 1), 12);
  }

  private static void firstOrders() {
    Check.says("at first each BAND has that of the numbers, turned by its own number: modulo PLACES");
    for (int places = 2; places <= 6; places++) {
      for (int bands = 1; bands <= 6; bands++) {
        HuntTable t = Check.hunt(hunt(places, bands));
        for (int band = 0; band < bands; band++) {
          for (int turn = 0; turn < places; turn++) {
            due("at(" + band + ", " + turn + ") of " + places, t.at(band, turn), (turn + band) % places);
          }
        }
      }
    }

    Check.says("TURNS are numbered from 0");
    HuntTable t = Check.hunt("p;p;p;b;b");
    due("at(0, -1)", t.at(0, -1), NONE);
    due("at(0, 0)", t.at(0, 0), 0);
    due("at(0, 2)", t.at(0, 2), 2);
    due("at(0, 3)", t.at(0, 3), NONE);
  }

  private static void meet() {
    Check.says("Two BANDS MEET in a TURN, if both are at one PLACE");
    HuntTable t = Check.hunt("p;p;p;b;b;lf9");
    due("they go one behind the other", t.crowd(0), NONE);
    t.order(1, 21);
    due("in the first TURN alone", t.crowd(0), 0);
    due("at one PLACE", t.crowd(1), 0);
    due("it is not LAWFUL", t.lawful(), 0);
    t.order(1, 210);
    due("in the middle TURN alone", t.crowd(0), 1);
    due("at one PLACE", t.crowd(1), 1);
    due("it is not LAWFUL", t.lawful(), 0);
    t.order(1, 102);
    due("in the last TURN alone", t.crowd(0), 2);
    due("at one PLACE", t.crowd(1), 2);
    due("it is not LAWFUL", t.lawful(), 0);
    t.order(1, 201);
    due("in none", t.crowd(0), NONE);
    due("it is LAWFUL", t.lawful(), 1);
    due("one alone meets none", Check.hunt("p;p;b").crowd(0), NONE);
  }

  private static void follow() {
    Check.says("A BAND FOLLOWS another one, each time it is in a TURN where the other was in the TURN ahead");
    HuntTable t = Check.hunt("p;p;p;p;b;b");
    due("in TURNS 1, 2, 3, not from the last TURN to the first", t.follows(0, 1), 3);
    due("the other way in none", t.follows(1, 0), 0);
    t.order(1, 3012);
    due("the other way round: 0 in none", t.follows(0, 1), 0);
    due("1 in TURNS 1, 2, 3", t.follows(1, 0), 3);
    t.order(1, 1032);
    due("0 in TURNS 1 and 3", t.follows(0, 1), 2);
    due("1 in TURNS 1 and 3", t.follows(1, 0), 2);
    t.order(1, 123);
    due("who goes along does not follow", t.follows(0, 1), 0);
    t.order(0, 2013);
    t.order(1, 3120);
    due("once: to 1 in TURN 2", t.follows(0, 1), 1);
    due("the other way in none", t.follows(1, 0), 0);
    HuntTable two = Check.hunt("p;p;b;b");
    due("of two PLACES", two.follows(0, 1), 1);
    due("of two PLACES", two.follows(1, 0), 1);
    HuntTable six = Check.hunt("p;p;p;p;p;p;b;b;b;b;b;b");
    due("at most one less than PLACES", six.follows(4, 5), 5);
    due("modulo PLACES it would be one more", six.follows(5, 0), 5);
  }

  private static void lawful() {
    Check.says("LAWFUL, if none MEET");
    due("1 for none", Check.hunt("p;p;b;b;lf9").lawful(), 1);
    due("0 for two of three", Check.hunt("p;p;b;b;b;lf9").lawful(), 0);
    due("1 for one alone", Check.hunt("p;p;b;lf0").lawful(), 1);

    Check.says("and no BAND FOLLOWS another one more often than it may");
    for (int places = 2; places <= 6; places++) {
      for (int may = 0; may <= 9; may++) {
        HuntTable t = Check.hunt(hunt(places, 2) + "f" + may);
        due("0 follows 1 " + (places - 1) + " times, may " + may, t.lawful(), places - 1 <= may ? 1 : 0);
      }
    }
    HuntTable back = Check.hunt("p;p;p;b;b;lf1");
    back.order(1, 201);
    due("1 follows 0 too often", back.lawful(), 0);
    HuntTable each = Check.hunt("p;p;p;p;b;b;b;b;lf1");
    int[] even = {132, 1203, 2310, 3021};
    for (int band = 0; band < 4; band++) {
      each.order(band, even[band]);
    }
    due("each one once, though three times in all", each.lawful(), 1);
    HuntTable never = Check.hunt("p;p;p;p;b;b;b;b;lf0");
    for (int band = 0; band < 4; band++) {
      never.order(band, even[band]);
    }
    due("once is too often, if one may not", never.lawful(), 0);
    HuntTable apart = Check.hunt("p;p;p;p;b;b;lf0");
    apart.order(1, 2301);
    due("of 0123 and 2301 none follows", apart.lawful(), 1);
  }

  private static void crowd(HuntTable t, int turn, int place, int who) {
    due("crowd(0)", t.crowd(0), turn);
    due("crowd(1)", t.crowd(1), place);
    due("crowd(2)", t.crowd(2), who);
  }

  private static void crowd() {
    Check.says("CROWD: the least TURN in which two MEET");
    HuntTable t = Check.hunt("p;p;p;b;b;b");
    crowd(t, NONE, NONE, NONE);
    t.order(2, 210);
    crowd(t, 1, 1, 5);
    t.order(1, 12);
    crowd(t, 0, 0, 3);

    Check.says("the lowest PLACE of it at which some do; BANDS (bits) there");
    HuntTable two = Check.hunt("p;p;b;b;b;b");
    crowd(two, 0, 0, 5);
    two.order(0, 10);
    crowd(two, 0, 1, 11);
    two.order(2, 10);
    crowd(two, 0, 1, 15);
    HuntTable all = Check.hunt("p;p;b;b;b;b;b;b");
    crowd(all, 0, 0, 21);
    all.order(0, 10);
    all.order(2, 10);
    crowd(all, 0, 1, 47);
    all.order(4, 10);
    crowd(all, 0, 1, 63);
    HuntTable last = Check.hunt("p;p;p;p;b;b;b");
    last.order(0, 123);
    last.order(1, 1032);
    last.order(2, 2310);
    crowd(last, NONE, NONE, NONE);
    last.order(2, 3210);
    crowd(last, NONE, NONE, NONE);
    last.order(2, 2130);
    crowd(last, 1, 1, 5);
    last.order(2, 2103);
    crowd(last, 1, 1, 5);
    last.order(2, 2301);
    crowd(last, NONE, NONE, NONE);
    last.order(2, 3201);
    crowd(last, NONE, NONE, NONE);
    last.order(1, 1023);
    last.order(2, 3210);
    crowd(last, 2, 2, 3);
  }

  private static void even() {
    HuntTable t = new HuntTable();
    Check.says("EVEN: for n BANDS and PLACES (even, 2 .. 400)");
    for (int n = -4; n <= 410; n++) {
      boolean sound = n >= 2 && n <= 400 && n % 2 == 0;
      due("even(" + n + ", 0, 0)", t.even(n, 0, 0), sound ? 0 : NONE);
      due("even(" + n + ", n - 1, n - 1)", t.even(n, n - 1, n - 1), sound ? (n - 1 + n / 2) % n : NONE);
      due("even(" + n + ", n, 0)", t.even(n, n, 0), NONE);
      due("even(" + n + ", 0, n)", t.even(n, 0, n), NONE);
      due("even(" + n + ", -1, 0)", t.even(n, -1, 0), NONE);
      due("even(" + n + ", 0, -1)", t.even(n, 0, -1), NONE);
    }

    Check.says("the sum of its number and of the TURN's, modulo n");
    due("below n", t.even(6, 4, 1), 5);
    due("n is 0", t.even(6, 5, 1), 0);
    due("above n", t.even(6, 5, 2), 4);
    due("the most", t.even(400, 399, 2), 398);

    Check.says("the numbers of TURNS are 0, 1, n less 1, 2, n less 2, and so on");
    int[][] rows = {{0, 1}, {0, 1, 3, 2}, {0, 1, 5, 2, 4, 3}, {0, 1, 7, 2, 6, 3, 5, 4}};
    for (int[] row : rows) {
      for (int turn = 0; turn < row.length; turn++) {
        due("even(" + row.length + ", 0, " + turn + ")", t.even(row.length, 0, turn), row[turn]);
      }
    }
    due("of 400 the last TURN", t.even(400, 0, 399), 200);
    due("of 400 the TURN ahead of it", t.even(400, 0, 398), 201);
    for (int n = 2; n <= 400; n += 2) {
      Set<Integer> places = new HashSet<>();
      Set<Integer> ways = new HashSet<>();
      for (int turn = 0; turn < n; turn++) {
        places.add(t.even(n, 0, turn));
        ways.add(turn == 0 ? 0 : (t.even(n, 0, turn) - t.even(n, 0, turn - 1) + n) % n);
      }
      due("of " + n + " each PLACE once", places.size(), n);
      due("of " + n + " nobody follows another one twice", ways.size(), n);
    }
  }

  private static void slips() {
    Check.says("SLIPS: pairs of a PLACE and the next one, each once, over all BANDS");
    due("one BAND of two PLACES", Check.hunt("p;p;b").slips(), 1);
    due("there and back are two", Check.hunt("p;p;b;b").slips(), 2);
    due("six BANDS, two pairs", Check.hunt("p;p;b;b;b;b;b;b").slips(), 2);
    due("round modulo PLACES", Check.hunt("p;p;p;p;p;p;b;b;b;b;b;b").slips(), 6);
    due("not from the last to the first of one alone", Check.hunt("p;p;p;p;p;p;b").slips(), 5);
    HuntTable six = Check.hunt("p;p;p;p;p;p;b;b;b;b;b;b");
    for (int band = 0; band < 6; band++) {
      int order = 0;
      for (int turn = 0; turn < 6; turn++) {
        order = order * 10 + six.even(6, band, turn);
      }
      six.order(band, order);
    }
    due("all pairs, each once", six.slips(), 30);
    due("a table by rule is LAWFUL, once being allowed", six.lawful(), 1);
    for (int band = 0; band < 6; band++) {
      six.order(band, 543210);
    }
    due("six alike", six.slips(), 5);
  }

  private static void well() {
    Check.says("WELL: the i-th BAND to come to a PLACE (by TURNS)");
    HuntTable t = Check.hunt("p;p;p;b;b;b");
    int[][] comers = {{0, 2, 1}, {1, 0, 2}, {2, 1, 0}};
    for (int place = 0; place < 3; place++) {
      for (int i = 0; i < 3; i++) {
        due("well(" + place + ", " + i + ")", t.well(place, i), comers[place][i]);
      }
      due("well(" + place + ", 3)", t.well(place, 3), NONE);
      due("well(" + place + ", -1)", t.well(place, -1), NONE);
    }
    HuntTable one = Check.hunt("p;p;p;p;p;p;b");
    due("in the last TURN", one.well(5, 0), 0);
    due("no second one", one.well(5, 1), NONE);

    Check.says("in one TURN by numbers");
    HuntTable two = Check.hunt("p;p;b;b;b;b;b;b");
    int[] first = {0, 2, 4, 1, 3, 5};
    for (int i = 0; i < 6; i++) {
      due("well(0, " + i + ")", two.well(0, i), first[i]);
      due("well(1, " + i + ")", two.well(1, i), first[(i + 3) % 6]);
    }
    due("well(0, 6)", two.well(0, 6), NONE);
  }

  private static void sight() {
    Check.says("SIGHT: the two are at two PLACES");
    HuntTable t = Check.hunt("px1y1;px1y2;b;b");
    due("at two", t.sight(), 2);
    t.order(1, 1);
    due("at one", t.sight(), 0);
    due("one alone", Check.hunt("px1y1;px1y2;b").sight(), 0);

    Check.says("with the same x or the same y");
    due("the same x", Check.hunt("px20y0;px20y20;b;b").sight(), 2);
    due("the same y", Check.hunt("px0y20;px20y20;b;b").sight(), 2);
    due("both the same counts once", Check.hunt("px7y7;px7y7;b;b").sight(), 2);
    due("neither", Check.hunt("px7y7;px8y8;b;b").sight(), 0);
    due("x of the one is y of the other", Check.hunt("px1y2;px2y1;b;b").sight(), 0);

    Check.says("pairs of BANDS and TURNS");
    due("nine pairs in two TURNS", Check.hunt("p;p;b;b;b;b;b;b").sight(), 18);
    due("fifteen pairs in six TURNS", Check.hunt("p;p;p;p;p;p;b;b;b;b;b;b").sight(), 90);
    due("in one TURN of three: of 012 and 120 0 with 1", Check.hunt("px1y1;px1y2;px3y3;b;b").sight(), 1);
  }

  private static void points() {
    Check.says("POINTS: by the one that holds (0 without; none at first)");
    HuntTable t = Check.hunt("p;p;p;b");
    due("0 without", t.points(0), 0);
    due("none at first", t.count(6), NONE);
    Check.put(t, "y:7");
    t.text(1);
    due("told, it does not hold yet", t.points(0), 0);
    due("told, it does not hold yet", t.count(6), NONE);
    t.worth(0);
    due("it holds", t.points(0), 21);
    Check.says("The WORTH that holds (NONE: none)");
    due("worth(NONE)", t.worth(NONE) ? 1 : 0, 1);
    due("none again", t.points(0), 0);
    due("none again", t.count(6), NONE);
    due("worth(0)", t.worth(0) ? 1 : 0, 1);
    due("it holds again", t.points(0), 21);
  }
}
