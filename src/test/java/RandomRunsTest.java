import java.util.NoSuchElementException;
import java.util.Random;

/** Promises 1 to 37: runs of calls by a seed, each answer compared with that of the naive program. */
public final class RandomRunsTest {
  private static final int RUNS = 1500;
  private static final int CALLS = 200;

  private final Random random;
  private final RandomTexts texts;
  private final HuntTable table = new HuntTable();
  private final NaiveHunt naive = new NaiveHunt();
  private final boolean small;
  private String run;

  private RandomRunsTest(long seed) {
    random = new Random(seed);
    texts = new RandomTexts(random);
    small = random.nextInt(3) > 0;
    run = "run " + seed + ": ";
  }

  public static void main(String[] args) {
    for (int seed = 0; seed < RUNS && Check.wrong() < 50; seed++) {
      RandomRunsTest test = new RandomRunsTest(seed);
      for (int i = 0; i < CALLS; i++) {
        test.call(i);
      }
    }
    Check.finish();
  }

  private void due(String call, long got, long want) {
    Check.due(run + call, got, want);
  }

  /** Mostly within 0 .. most, now and then outside it. */
  private int about(int most) {
    int kind = random.nextInt(60);
    if (kind == 0) {
      return random.nextBoolean() ? Integer.MIN_VALUE : Integer.MAX_VALUE;
    }
    return kind < 4 ? -1 - random.nextInt(2) : kind < 8 ? most + 1 + random.nextInt(2) : random.nextInt(most + 1);
  }

  private int band() {
    return about(Math.max(0, naive.count(1) - 1));
  }

  private int place() {
    return about(Math.max(0, naive.count(0) - 1));
  }

  private void call(int i) {
    if (i == 0 && random.nextInt(20) > 0 || random.nextInt(40) == 0) {
      tellHunt();
    } else if (random.nextInt(25) == 0) {
      tellWorth();
    } else if (random.nextInt(2) == 0) {
      change(random.nextInt(14));
    } else {
      ask(random.nextInt(26));
    }
  }

  private void put(String text) {
    int[] numbers = Check.packed(text);
    for (int i = 0; i < numbers.length; i += 5) {
      feed(numbers[i], numbers[i + 1], numbers[i + 2], numbers[i + 3], numbers[i + 4]);
    }
  }

  private void feed(int a, int b, int c, int d, int e) {
    due("feed", table.feed(a, b, c, d, e), naive.feed(a, b, c, d, e));
  }

  private void tellHunt() {
    end(0);
    String text = small ? texts.hunt(4, 4) : texts.hunt(6, 6);
    put(random.nextInt(6) == 0 ? texts.spoilt(text, "pbl;xysfk0129 ") : text);
    tell(0);
  }

  private void tellWorth() {
    end(0);
    String text = texts.worth();
    put(random.nextInt(6) == 0 ? texts.spoilt(text, "y:;?|&!()[]=<>+-*/tpbmd0129 ") : text);
    tell(1);
  }

  private void tell(int sort) {
    due("fault(" + sort + ")", table.fault(sort), naive.fault(sort));
    due("text(" + sort + ")", table.text(sort), naive.text(sort));
  }

  private void end(int n) {
    due("end(" + n + ")", table.end(n) ? 1 : 0, naive.end(n) ? 1 : 0);
  }

  /** An order of the hunt that is told, now and then a little wrong. */
  private int someOrder() {
    int places = naive.count(0);
    int[] order = new int[places];
    int digits = 0;
    for (int i = 0; i < places; i++) {
      int j = random.nextInt(i + 1);
      order[i] = order[j];
      order[j] = i;
    }
    for (int place : order) {
      digits = digits * 10 + place;
    }
    int kind = random.nextInt(12);
    return kind == 0 ? digits + 1 : kind == 1 ? digits * 10 : kind == 2 ? -digits : kind == 3 ? about(999999) : digits;
  }

  private void change(int kind) {
    int a = band();
    int b = place();
    int c = place();
    int order = someOrder();
    int minute = random.nextInt(3) == 0 ? about(99) : about(9);
    boolean is = random.nextInt(3) == 0;
    switch (kind) {
      case 0, 1, 2 -> due("order(" + a + ", " + order + ")", table.order(a, order), naive.order(a, order));
      case 3, 4, 5 -> due("start(" + a + ", " + minute + ")", table.start(a, minute) ? 1 : 0, naive.start(a, minute) ? 1 : 0);
      case 6 -> worth(about(3));
      case 7 -> due("undo()", table.undo(), naive.undo());
      case 8, 9 -> due("find", table.find(a, b, c, is), naive.find(a, b, c, is));
      case 10 -> draw(random.nextInt(3) == 0 ? random.nextLong() : about(9));
      case 11 -> due("image()", table.image(), naive.image());
      case 12 -> due("back()", table.back(), naive.back());
      default -> tape();
    }
  }

  private void worth(int worth) {
    due("worth(" + worth + ")", table.worth(worth) ? 1 : 0, naive.worth(worth) ? 1 : 0);
  }

  private void draw(long seed) {
    due("drawn(" + seed + ")", table.drawn(seed), naive.drawn(seed));
  }

  private void tape() {
    if (random.nextBoolean()) {
      end(about(Math.max(0, naive.count(3))));
    } else {
      feed(random.nextInt(), random.nextInt() & 0xff00ff, 0, random.nextInt() & 255, random.nextInt() << 16);
    }
    if (random.nextInt(4) == 0) {
      tell(about(1));
    }
  }

  private void askPlace(int place, int what) {
    int got;
    int want;
    try {
      got = table.place(place, what);
    } catch (NoSuchElementException e) {
      got = -7;
    }
    try {
      want = naive.place(place, what);
    } catch (NoSuchElementException e) {
      want = -7;
    }
    due("place(" + place + ", " + what + ")", got, want);
  }

  private void ask(int kind) {
    int a = band();
    int b = band();
    int p = place();
    int t = place();
    int w = about(1);
    int n = about(10);
    int k = about(10);
    int far = random.nextBoolean() ? about(10) : about(40);
    switch (kind) {
      case 0 -> askPlace(p, w);
      case 1 -> due("band(" + a + ", " + (w + 1) + ")", table.band(a, w + 1), naive.band(a, w + 1));
      case 2 -> due("at(" + a + ", " + t + ")", table.at(a, t), naive.at(a, t));
      case 3 -> due("follows(" + a + ", " + b + ")", table.follows(a, b), naive.follows(a, b));
      case 4 -> due("lawful()", table.lawful(), naive.lawful());
      case 5 -> due("crowd(" + (w + 1) + ")", table.crowd(w + 1), naive.crowd(w + 1));
      case 6 -> askEven(about(400));
      case 7 -> due("slips()", table.slips(), naive.slips());
      case 8 -> due("well(" + p + ", " + b + ")", table.well(p, b), naive.well(p, b));
      case 9 -> due("sight()", table.sight(), naive.sight());
      case 10 -> due("points(" + a + ")", table.points(a), naive.points(a));
      case 11 -> due("comes(" + a + ", " + t + ")", table.comes(a, t), naive.comes(a, t));
      case 12 -> due("home(" + a + ")", table.home(a), naive.home(a));
      case 13 -> due("clashes(" + w + ")", table.clashes(w), naive.clashes(w));
      case 14 -> due("starts(" + n + ", " + w + ")", table.starts(n, w), naive.starts(n, w));
      case 15 -> due("soonest(" + a + ", " + w + ")", table.soonest(a, w), naive.soonest(a, w));
      case 16 -> due("rich(" + a + ", " + w + ")", table.rich(a, w), naive.rich(a, w));
      case 17 -> due("fits(" + a + ")", table.fits(a), naive.fits(a));
      case 18, 19 -> askTables(a);
      case 20 -> due("wrong(" + a + ", " + t + ", " + p + ", " + w + ")", table.wrong(a, t, p, w), naive.wrong(a, t, p, w));
      case 21 -> due("helpers(" + far + ")", table.helpers(far), naive.helpers(far));
      case 22 -> askPieces(n, k, w);
      case 23 -> askPieces(n, k, 2 + random.nextInt(260));
      case 24 -> due("again()", table.again(), naive.again());
      default -> due("count", table.count(n), naive.count(n));
    }
  }

  private void askPieces(int n, int k, int what) {
    due("pieces(" + n + ", " + k + ", " + what + ")", table.pieces(n, k, what), naive.pieces(n, k, what));
  }

  private void askEven(int n) {
    int band = about(Math.max(0, Math.min(n, 400)));
    int turn = about(Math.max(0, Math.min(n, 400)));
    due("even(" + n + ", " + band + ", " + turn + ")", table.even(n, band, turn), naive.even(n, band, turn));
  }

  private void askTables(int band) {
    int many = naive.tables(-1, band);
    due("tables(-1, " + band + ")", table.tables(-1, band), many);
    for (int i = 0; i < 3; i++) {
      int number = i == 0 ? about(Math.max(0, many - 1)) : i == 1 ? many - 1 : many;
      due("tables(" + number + ", " + band + ")", table.tables(number, band), naive.tables(number, band));
    }
  }
}
