import java.lang.management.ManagementFactory;

/** What a run makes stays small: an object and the dearest calls on it, all 512 times. */
public final class RoomTest {
  private static final int CALLS = 512, DEAREST = 8;
  /** An object takes 16 bytes at least: so much holds fewer than the 600,000 that a run has room for. */
  private static final long MOST_OF_A_RUN = 16 * 600000;

  private static int wrong = 0;

  public static void main(String[] args) {
    com.sun.management.ThreadMXBean threads = (com.sun.management.ThreadMXBean) ManagementFactory.getThreadMXBean();
    long id = Thread.currentThread().getId();
    // A first one each, so that what the Java machine makes for itself is made.
    for (int call = 0; call < DEAREST; call++) ask(dear(), call);
    for (int call = 0; call < DEAREST; call++) {
      long ahead = threads.getThreadAllocatedBytes(id);
      FortyBelts x = dear();
      for (int i = 0; i < CALLS; i++) ask(x, call);
      long taken = threads.getThreadAllocatedBytes(id) - ahead;
      if (taken > MOST_OF_A_RUN) {
        wrong++;
        System.out.println("call " + call + " takes " + taken + " bytes, at most " + MOST_OF_A_RUN + " are due");
      }
    }
    System.out.println(wrong == 0 ? "all runs are small" : wrong + " runs are not small");
    if (wrong != 0) System.exit(1);
  }

  /** Seven belts, ten machines, twelve drums of which the first four belts may choose among many. */
  private static FortyBelts dear() {
    FortyBelts x = Due.hall();
    Due.sizes(x, 17, 18, 19, 21, 22);
    x.shaft(5, 5);
    x.belt(2, 34, 607, 9);
    for (int i = 4; i < 10; i++) x.machine(i % 4, 1, 9999, 1);
    x.image();
    return x;
  }

  private static long ask(FortyBelts x, int call) {
    switch (call) {
      case 0: return x.choose(0);
      case 1: return x.lay();
      case 2: return x.cut(0, 0);
      case 3: return x.start(0);
      case 4: return x.bite(1, 9999);
      case 5: return x.feed(8, 0x2820726165770a20L) + x.text();
      case 6: return x.years(0, 999, 1) + x.hangs() + x.back();
      default: return x.sheet(0, 2, 40) + x.judge();
    }
  }
}
