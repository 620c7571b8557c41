import java.lang.management.ManagementFactory;

/** What a run makes stays small: the dearest calls, all 512 times, make next to nothing. */
public final class RoomTest {
  private static final int CALLS = 512;
  private static final long MOST_OF_AN_OBJECT = 16000, MOST_OF_A_RUN = 2000;

  private static int wrong = 0;

  public static void main(String[] args) {
    com.sun.management.ThreadMXBean threads = (com.sun.management.ThreadMXBean) ManagementFactory.getThreadMXBean();
    long id = Thread.currentThread().getId();
    // A first one each, so that what the Java machine makes for itself is made.
    Due.hall();
    for (int call = 0; call < 8; call++) ask(dear(), call);

    long ahead = threads.getThreadAllocatedBytes(id);
    FortyBelts made = new FortyBelts();
    small("an object", threads.getThreadAllocatedBytes(id) - ahead, MOST_OF_AN_OBJECT);
    Due.due("made", made.count(4), 1);

    for (int call = 0; call < 8; call++) {
      FortyBelts x = dear();
      ahead = threads.getThreadAllocatedBytes(id);
      for (int i = 0; i < CALLS; i++) ask(x, call);
      long taken = threads.getThreadAllocatedBytes(id) - ahead;
      small("call " + call, taken, MOST_OF_A_RUN);
    }
    System.out.println(wrong == 0 ? "all runs are small" : wrong + " runs are not small");
    if (wrong != 0) System.exit(1);
  }

  private static void small(String what, long bytes, long most) {
    if (bytes > most) {
      wrong++;
      System.out.println(what + " takes " + bytes + " bytes, at most " + most + " are due");
    }
  }

  /** Seven belts, ten machines, twelve drums of which the first four belts may choose among many. */
  private static FortyBelts dear() {
    FortyBelts x = Due.hall();
    Due.sizes(x, 17, 18, 19, 21, 22);
    x.shaft(5, 5);
    x.belt(2, 34, 607, 9);
    for (int i = 4; i < 10; i++) x.machine(i % 4, 1, 9999, 1);
    x.image();
    return x;
  }

  private static long ask(FortyBelts x, int call) {
    switch (call) {
      case 0: return x.choose(0);
      case 1: return x.lay();
      case 2: return x.cut(0, 0);
      case 3: return x.start(0);
      case 4: return x.bite(1, 9999);
      case 5: return x.feed(8, 0x2820726165770a20L) + x.text();
      case 6: return x.years(0, 999, 1) + x.hangs() + x.back();
      default: return x.sheet(0, 2, 40) + x.judge();
    }
  }
}
