import java.util.NoSuchElementException;
import java.util.function.ToLongFunction;

/** All calls with all mixtures of arguments at and about every bound of the document, compared with the naive program. */
public final class EdgeArgumentsTest {
  private static final int[] EDGES = {Integer.MIN_VALUE, Integer.MIN_VALUE + 1, -1000001, -1000000, -401, -11, -3, -2, -1, 0, 1, 2, 3,
      4, 5, 6, 7, 8, 9, 10, 11, 20, 21, 30, 31, 39, 40, 41, 98, 99, 100, 159, 160, 161, 211, 212, 253, 254, 398, 399, 400, 401, 402, 999,
      1000, 1001, 9999, 1000000, Integer.MAX_VALUE - 1, Integer.MAX_VALUE};
  private static final int[] FEW = {Integer.MIN_VALUE, -2, -1, 0, 1, 2, 3, 4, 5, 6, 7, Integer.MAX_VALUE};
  private static final String[] HUNTS = {"", "p;p;b", "px1;p;b;b;b;b;lf0k1", "px3y4;px9;py9;bs2;b;lf2k4", "px1y1;px4y1;px4y5;px1y5;b;bs2;b;lf1k3",
      "p;px1;px2;px3;px4;b;b;b;b;b;lf1k0", "px20y20;p;px20;py20;px10y10;px20y20;bs5;bs4;bs3;bs2;bs1;b;lf9k30"};

  private final HuntTable table = new HuntTable();
  private final NaiveHunt naive = new NaiveHunt();
  private final String hunt;

  private EdgeArgumentsTest(String hunt) {
    this.hunt = hunt;
    tell(hunt, 0);
    tell("y:t=1?m*d-p;y:d+b*t", 1);
    due("worth(0)", table.worth(0) ? 1 : 0, naive.worth(0) ? 1 : 0);
  }

  public static void main(String[] args) {
    for (String text : HUNTS) {
      EdgeArgumentsTest test = new EdgeArgumentsTest(text);
      test.askAll();
      test.changeAll();
      test.askAll();
    }
    Check.finish();
  }

  private void due(String call, long got, long want) {
    Check.due("\"" + hunt + "\": " + call, got, want);
  }

  private void tell(String text, int sort) {
    int[] numbers = Check.packed(text);
    for (int i = 0; i < numbers.length; i += 5) {
      table.feed(numbers[i], numbers[i + 1], numbers[i + 2], numbers[i + 3], numbers[i + 4]);
      naive.feed(numbers[i], numbers[i + 1], numbers[i + 2], numbers[i + 3], numbers[i + 4]);
    }
    due("text(" + sort + ")", table.text(sort), naive.text(sort));
  }

  private static long caught(ToLongFunction<int[]> call, int[] args) {
    try {
      return call.applyAsLong(args);
    } catch (NoSuchElementException e) {
      return Long.MIN_VALUE;
    }
  }

  private void both(String call, ToLongFunction<int[]> one, ToLongFunction<int[]> other, int... args) {
    StringBuilder shown = new StringBuilder(call);
    for (int arg : args) {
      shown.append(' ').append(arg);
    }
    due(shown.toString(), caught(one, args), caught(other, args));
  }

  private void askAll() {
    both("lawful", a -> table.lawful(), a -> naive.lawful());
    both("slips", a -> table.slips(), a -> naive.slips());
    both("sight", a -> table.sight(), a -> naive.sight());
    both("again", a -> table.again(), a -> naive.again());
    for (int a : EDGES) {
      askOne(a);
      for (int b : EDGES) {
        askTwo(a, b);
      }
    }
    for (int a : FEW) {
      for (int b : FEW) {
        for (int c : EDGES) {
          both("even", x -> table.even(x[2], x[0], x[1]), x -> naive.even(x[2], x[0], x[1]), a, b, c);
          both("even", x -> table.even(x[0], x[2], x[1]), x -> naive.even(x[0], x[2], x[1]), a, b, c);
          both("pieces", x -> table.pieces(x[0], x[1], x[2]), x -> naive.pieces(x[0], x[1], x[2]), a, b, c);
        }
        for (int c : FEW) {
          for (int d : FEW) {
            both("wrong", x -> table.wrong(x[0], x[1], x[2], x[3]), x -> naive.wrong(x[0], x[1], x[2], x[3]), a, b, c, d);
          }
        }
      }
    }
  }

  private void askOne(int a) {
    both("fault", x -> table.fault(x[0]), x -> naive.fault(x[0]), a);
    both("crowd", x -> table.crowd(x[0]), x -> naive.crowd(x[0]), a);
    both("points", x -> table.points(x[0]), x -> naive.points(x[0]), a);
    both("home", x -> table.home(x[0]), x -> naive.home(x[0]), a);
    both("clashes", x -> table.clashes(x[0]), x -> naive.clashes(x[0]), a);
    both("fits", x -> table.fits(x[0]), x -> naive.fits(x[0]), a);
    both("count", x -> table.count(x[0]), x -> naive.count(x[0]), a);
    // All six bands in each turn: the naive program has no end of rows to try.
    boolean few = naive.count(0) < 6;
    both("helpers", x -> few || x[0] < 0 ? table.helpers(x[0]) : 0, x -> few || x[0] < 0 ? naive.helpers(x[0]) : 0, a);
    both("tables", x -> table.tables(x[0], 0), x -> naive.tables(x[0], 0), a);
    both("tables", x -> table.tables(-1, x[0]), x -> naive.tables(-1, x[0]), a);
    both("tables", x -> table.tables(0, x[0]), x -> naive.tables(0, x[0]), a);
  }

  private void askTwo(int a, int b) {
    both("place", x -> table.place(x[0], x[1]), x -> naive.place(x[0], x[1]), a, b);
    both("band", x -> table.band(x[0], x[1]), x -> naive.band(x[0], x[1]), a, b);
    both("at", x -> table.at(x[0], x[1]), x -> naive.at(x[0], x[1]), a, b);
    both("follows", x -> table.follows(x[0], x[1]), x -> naive.follows(x[0], x[1]), a, b);
    both("well", x -> table.well(x[0], x[1]), x -> naive.well(x[0], x[1]), a, b);
    both("comes", x -> table.comes(x[0], x[1]), x -> naive.comes(x[0], x[1]), a, b);
    both("starts", x -> table.starts(x[0], x[1]), x -> naive.starts(x[0], x[1]), a, b);
    both("soonest", x -> table.soonest(x[0], x[1]), x -> naive.soonest(x[0], x[1]), a, b);
    both("rich", x -> table.rich(x[0], x[1]), x -> naive.rich(x[0], x[1]), a, b);
  }

  /** Those that change something, with what is refused between them. */
  private void changeAll() {
    for (int a : EDGES) {
      both("end", x -> table.end(x[0]) ? 1 : 0, x -> naive.end(x[0]) ? 1 : 0, a);
      both("text", x -> table.text(x[0]), x -> naive.text(x[0]), a);
      both("worth", x -> table.worth(x[0]) ? 1 : 0, x -> naive.worth(x[0]) ? 1 : 0, a);
      both("undo", x -> table.undo(), x -> naive.undo());
      both("feed", x -> table.feed(x[0], 0, x[0], 0, 1), x -> naive.feed(x[0], 0, x[0], 0, 1), a);
      for (int b : EDGES) {
        both("start", x -> table.start(x[0], x[1]) ? 1 : 0, x -> naive.start(x[0], x[1]) ? 1 : 0, a, b);
        both("order", x -> table.order(x[0], x[1]), x -> naive.order(x[0], x[1]), a, b);
      }
      both("drawn", x -> table.drawn(x[0]), x -> naive.drawn(x[0]), a);
    }
    both("image", x -> table.image(), x -> naive.image());
    both("drawn", x -> table.drawn(Long.MIN_VALUE), x -> naive.drawn(Long.MIN_VALUE));
    for (int a : FEW) {
      for (int b : FEW) {
        for (int c : FEW) {
          both("find", x -> table.find(x[0], x[1], x[2], false), x -> naive.find(x[0], x[1], x[2], false), a, b, c);
        }
      }
    }
  }
}
