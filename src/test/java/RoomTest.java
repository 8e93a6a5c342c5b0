import java.lang.management.ManagementFactory;

/** All calls of a run live in one room: 512 of each dear call make next to nothing new. */
public final class RoomTest {
  private static final int CALLS = 512;
  private static final long MOST_BYTES_OF_OBJECT = 16000;
  private static final long MOST_BYTES_OF_CALLS = 40000;

  private static final com.sun.management.ThreadMXBean BEAN =
      (com.sun.management.ThreadMXBean) ManagementFactory.getThreadMXBean();

  public static void main(String[] args) {
    HuntTable warm = new HuntTable();
    Check.due("warm", warm.count(0), 0);
    long before = made();
    HuntTable made = new HuntTable();
    long bytes = made() - before;
    Check.due("a new object of " + bytes + " bytes is small", bytes <= MOST_BYTES_OF_OBJECT && made.count(0) == 0, true);
    int[] hunt = Check.packed("px1y1;px4y1;px4y5;px1y5;px20;b;bs2;b;b;lf2k3");
    int[] worth = Check.packed("y:!(t=1|m<9)&d>1?[t*p-m]/d;y:m*d+b");
    for (int kind = 0; kind < 12; kind++) {
      HuntTable t = new HuntTable();
      before = made();
      run(t, kind, hunt, worth);
      bytes = made() - before;
      Check.due("512 calls of kind " + kind + " make " + bytes + " bytes, which is little", bytes <= MOST_BYTES_OF_CALLS, true);
    }
    Check.finish();
  }

  private static long made() {
    return BEAN.getThreadAllocatedBytes(Thread.currentThread().getId());
  }

  private static void tell(HuntTable t, int[] text, int sort) {
    for (int i = 0; i + 4 < text.length; i += 5) {
      t.feed(text[i], text[i + 1], text[i + 2], text[i + 3], text[i + 4]);
    }
    t.fault(sort);
    t.text(sort);
  }

  private static void run(HuntTable t, int kind, int[] hunt, int[] worth) {
    tell(t, hunt, 0);
    tell(t, worth, 1);
    t.worth(0);
    for (int i = 0; i < CALLS; i++) {
      switch (kind) {
        case 0:
          t.tables(i - 1, i % 4);
          break;
        case 1:
          t.find(i % 4, i % 5, i % 3, false);
          t.tables(-1, 0);
          break;
        case 2:
          t.rich(i % 4, i % 2);
          break;
        case 3:
          t.soonest(i % 4, i % 2);
          break;
        case 4:
          t.helpers(i % 41);
          break;
        case 5:
          t.starts(i % 10, i % 2);
          break;
        case 6:
          t.drawn(i);
          t.clashes(i % 2);
          break;
        case 7:
          tell(t, hunt, 0);
          break;
        case 8:
          t.end(0);
          tell(t, worth, 1);
          break;
        case 9:
          t.image();
          t.back();
          t.again();
          break;
        case 10:
          t.fits(i % 4);
          t.points(i % 4);
          t.sight();
          break;
        default:
          t.pieces(10, 1 + i % 10, i);
          t.even(400, i % 400, i % 399);
          break;
      }
    }
  }
}
