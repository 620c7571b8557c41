/** Promises 1 to 12: shafts, machines, drums, belts. */
public final class ShaftsTest {
  public static void main(String[] args) {
    made();
    shaftsAdded();
    engineSet();
    machinesAdded();
    machinesSet();
    drumsAdded();
    beltsAdded();
    beltsFull();
    beltsRefused();
    beltsThrown();
    drumsChanged();
    beltsTold();
    beltsThatSlip();
    beltsByKind();
    turnsTold();
    turnsAtTheirMost();
    runsTold();
    Due.end();
  }

  private static void made() {
    Due.promise(1);
    FortyBelts x = new FortyBelts();
    for (int what : new int[] {0, 1, 2, 3, 5, 6}) Due.due("count(" + what + ")", x.count(what), 0);
    Due.due("count(4)", x.count(4), 1);
    Due.due("turns", x.turns(0, 0), FortyBelts.NO);
    Due.due("told", x.told(0, 0), -5);
    Due.due("NONE", FortyBelts.NONE, -1);
    Due.due("BAD", FortyBelts.BAD, -2);
    Due.due("STATE", FortyBelts.STATE, -3);
    Due.due("FULL", FortyBelts.FULL, -4);
    Due.due("NO", FortyBelts.NO, -4611686018427387904L);
    for (int what = 0; what < 3; what++) Due.due("runs", x.runs(what), 0);
    Due.due("judge", x.judge(), -1);
    Due.due("save", x.save(), 0);
    Due.due("back", x.back(), -3);
    Due.due("start", x.start(0), 0);
    Due.due("jerk", x.start(1), 0);
    Due.due("choose", x.choose(0), 0);
    for (int i = 0; i < 4; i++) Due.due("cell", x.cell(i, 0, 0), -11);
    Due.due("turns of the engine", x.engine(0, 1), 100);
    Due.due("power of the engine", x.engine(1, 1), 1000);
  }

  private static void shaftsAdded() {
    Due.promise(2);
    FortyBelts x = new FortyBelts();
    Due.due("shaft", x.shaft(0, 1), 0);
    Due.due("shaft", x.shaft(99, 9999), 1);
    for (int i = 2; i < 8; i++) Due.due("shaft", x.shaft(50, 50), i);
    Due.due("turns of shaft 0", x.turns(0, 0), 100);
    Due.due("turns of shaft 7", x.turns(7, 0), 0);
    Due.due("turns of shaft 7, below", x.turns(7, 1), 1);
    int[][] bad = {{-1, 1}, {100, 1}, {0, 0}, {0, 10000}, {0, -1}, {Integer.MIN_VALUE, 1}, {0, Integer.MAX_VALUE}};
    for (int[] b : bad) Due.still("shaft(" + b[0] + ", " + b[1] + ")", Due::busy, y -> y.shaft(b[0], b[1]), -2);
    Due.still("shaft, full", () -> Due.shafts(8), y -> y.shaft(1, 1), -4);
    Due.still("shaft, full and bad", () -> Due.shafts(8), y -> y.shaft(100, 1), -2);
  }

  private static void engineSet() {
    Due.promise(3);
    FortyBelts x = new FortyBelts();
    Due.due("turns without shafts", x.engine(0, 999), 100);
    Due.due("turns", x.engine(0, 1), 999);
    Due.due("power", x.engine(1, 9999), 1000);
    Due.due("power", x.engine(1, 1), 9999);
    x.shaft(0, 1);
    Due.due("turns of shaft 0", x.turns(0, 0), 1);
    x.engine(0, 77);
    Due.due("turns of shaft 0", x.turns(0, 0), 77);
    int[][] bad = {{0, 0}, {0, 1000}, {1, 0}, {1, 10000}, {2, 5}, {-1, 5}, {0, -5}, {1, -5}};
    for (int[] b : bad) Due.still("engine(" + b[0] + ", " + b[1] + ")", Due::busy, y -> y.engine(b[0], b[1]), -2);
    FortyBelts y = Due.hall();
    y.engine(1, 169);
    Due.due("start, a power of one less", y.start(0), -1);
    y.engine(1, 170);
    Due.due("start, just the power", y.start(0), 12);
  }

  private static void machinesAdded() {
    Due.promise(4);
    FortyBelts x = Due.shafts(2);
    Due.due("machine", x.machine(0, 0, 0, 0), 0);
    Due.due("machine", x.machine(1, 999, 99999999, 24), 1);
    Due.due("on at first", x.set(0, 2, 1), 1);
    Due.due("load", x.set(1, 0, 0), 999);
    Due.due("hours", x.set(1, 1, 0), 24);
    for (int i = 2; i < 10; i++) Due.due("machine", x.machine(0, 1, 1000100, 1), i);
    Due.due("run well by just the turns they want", x.runs(0), 0x3fc);
    int[][] bad = {{4, 1, 1, 1}, {-1, 1, 1, 1}, {0, -1, 1, 1}, {0, 1000, 1, 1}, {0, 1, -1, 1}, {0, 1, 100000000, 1}, {0, 1, 10000, 1},
      {0, 1, 50004999, 1}, {0, 1, 1, -1}, {0, 1, 1, 25}, {0, 1, Integer.MIN_VALUE, 1}, {0, 1, Integer.MAX_VALUE, 1}};
    for (int[] b : bad) {
      Due.still("machine(" + b[0] + ", " + b[1] + ", " + b[2] + ", " + b[3] + ")", Due::busy, y -> y.machine(b[0], b[1], b[2], b[3]), -2);
    }
    Due.Maker full = () -> {
      FortyBelts y = Due.shafts(2);
      for (int i = 0; i < 10; i++) y.machine(1, 7, 9999, 3);
      return y;
    };
    Due.still("machine, full", full, y -> y.machine(0, 1, 1, 1), -4);
    Due.still("machine, full and bad", full, y -> y.machine(2, 1, 1, 1), -2);
    Due.due("machine without shafts", new FortyBelts().machine(0, 1, 1, 1), -2);
  }

  private static void machinesSet() {
    Due.promise(5);
    FortyBelts x = Due.hall();
    Due.due("load", x.set(1, 0, 999), 50);
    Due.due("loaded", x.runs(2), 1998 + 30 + 40);
    Due.due("load", x.set(1, 0, 0), 999);
    Due.due("hours", x.set(1, 1, 24), 8);
    Due.due("hours", x.set(1, 1, 0), 24);
    Due.due("on", x.set(1, 2, 0), 1);
    Due.due("on", x.set(1, 2, 0), 0);
    Due.due("on", x.set(1, 2, 1), 0);
    Due.due("on", x.set(0, 2, 1), 0);
    Due.due("loaded", x.runs(2), 5 + 30 + 40);
    int[][] bad = {{4, 0, 0}, {-1, 0, 0}, {0, 0, -1}, {0, 0, 1000}, {0, 1, -1}, {0, 1, 25}, {0, 2, -1}, {0, 2, 2}, {0, 3, 0}, {0, -1, 0}};
    for (int[] b : bad) Due.still("set(" + b[0] + ", " + b[1] + ", " + b[2] + ")", Due::busy, y -> y.set(b[0], b[1], b[2]), -2);
  }

  private static void drumsAdded() {
    Due.promise(6);
    FortyBelts x = new FortyBelts();
    Due.due("drum", x.drum(1), 0);
    Due.due("drum", x.drum(99), 1);
    for (int i = 2; i < 12; i++) Due.due("drum", x.drum(i), i);
    Due.due("drum, full and bad", x.drum(0), -2);
    for (int size : new int[] {0, 100, -1, Integer.MIN_VALUE}) Due.still("drum(" + size + ")", Due::busy, y -> y.drum(size), -2);
    Due.Maker full = () -> {
      FortyBelts y = Due.busy();
      Due.sizes(y, 3, 3, 3, 3, 3);
      return y;
    };
    Due.still("drum, full", full, y -> y.drum(4), -4);
  }

  private static void beltsAdded() {
    Due.promise(7);
    FortyBelts x = Due.shafts(5);
    Due.sizes(x, 10, 20, 30, 40);
    Due.due("belt", x.belt(0, 12, 1, 9), 0);
    Due.due("on at first", x.told(0, 5), 1);
    Due.due("belt", x.belt(0, 23, 203, 9), 1);
    Due.due("drives itself over two", x.belt(0, 31, 1, 9), -3);
    Due.due("drives itself at once", x.belt(0, 21, 1, 9), -3);
    Due.due("one of them off", x.throwsOn(1, 0), 1);
    Due.due("drives itself over one that is off", x.belt(0, 31, 1, 9), -3);
    Due.due("driven already by one that is off", x.belt(0, 43, 1, 9), -3);
    Due.due("and on", x.throwsOn(1, 1), 0);
    Due.due("the engine's belt comes last", x.belt(1, 1, 301, 999), 2);
    Due.due("turns", x.turns(3, 0), 75);
    Due.due("turns, below", x.turns(3, 1), 1);
    Due.due("way", x.turns(3, 2), -1);
    Due.due("pull from behind", x.told(2, 9), 0);
    x.machine(3, 100, 9999, 1);
    Due.due("pull from behind", x.told(2, 9), 75);
    Due.due("pull from behind", x.told(0, 9), 75);
  }

  private static void beltsFull() {
    FortyBelts x = Due.shafts(8);
    Due.sizes(x, 1, 2);
    Due.due("belt", x.belt(0, 67, 1, 1), 0);
    for (int i = 1; i < 7; i++) Due.due("belt", x.belt(5, 10 * (i - 1) + i, 1, 999), i);
    Due.due("all shafts are driven", x.belt(0, 1, 1, 9), -3);
    Due.due("belts", x.count(3), 7);
    Due.due("turns of the last", x.turns(7, 0), 25);
    Due.due("turns of the last, below", x.turns(7, 1), 32);
    FortyBelts y = Due.shafts(8);
    Due.sizes(y, 2, 1);
    for (int i = 7; i > 0; i--) Due.due("belt", y.belt(1, 10 * (i - 1) + i, 1, 999), 7 - i);
    for (int i = 1; i < 8; i++) Due.due("turns, the last belt added first", y.turns(i, 0), 100 << i);
    y.machine(7, 1, 9999, 7);
    for (int i = 0; i < 7; i++) Due.due("pull, the last belt added first", y.told(i, 9), 128);
    for (int i = 0; i < 7; i++) Due.due("hours of machine 0", y.told(i, 11), 128 * 7);
  }

  private static void beltsRefused() {
    int[][] bad = {{-1, 20, 1, 9}, {6, 12, 1, 9}, {0, -1, 1, 9}, {0, 14, 1, 9}, {0, 43, 1, 9}, {0, 11, 1, 9}, {0, 10, 1, 9}, {0, 0, 1, 9}, {0, 104, 1, 9},
      {0, 13, -1, 9}, {0, 13, 0, 9}, {0, 13, 101, 9}, {0, 13, 7, 9}, {0, 13, 700, 9}, {0, 13, 1, 0}, {0, 13, 1, 1000}, {0, 13, -101, 9}, {0, -10, 1, 9},
      {0, Integer.MIN_VALUE, 1, 9}, {0, 12, Integer.MIN_VALUE, 9}, {0, 19, 1, 9}, {0, 100, 1, 9}};
    for (int[] b : bad) {
      Due.still("belt(" + b[0] + ", " + b[1] + ", " + b[2] + ", " + b[3] + ")", Due::busy, y -> y.belt(b[0], b[1], b[2], b[3]), -2);
    }
    Due.still("belt, driven", Due::busy, y -> y.belt(0, 2, 1, 9), -3);
    Due.Maker loose = () -> {
      FortyBelts y = Due.shafts(4);
      Due.sizes(y, 1, 2);
      y.belt(0, 12, 1, 9);
      y.belt(0, 23, 1, 9);
      return y;
    };
    Due.still("belt, itself", loose, y -> y.belt(0, 31, 1, 9), -3);
  }

  private static void beltsThrown() {
    Due.promise(8);
    FortyBelts x = Due.hall();
    Due.due("off", x.throwsOn(0, 0), 1);
    Due.due("off again", x.throwsOn(0, 0), 0);
    Due.due("told", x.told(0, 5), 0);
    Due.due("turns", x.turns(2, 0), 0);
    Due.due("on", x.throwsOn(0, 1), 0);
    Due.due("on again", x.throwsOn(0, 1), 1);
    Due.due("turns", x.turns(2, 0), 100);
    int[][] bad = {{-1, 0}, {3, 0}, {0, -1}, {0, 2}};
    for (int[] b : bad) Due.still("throwsOn(" + b[0] + ", " + b[1] + ")", Due::busy, y -> y.throwsOn(b[0], b[1]), -2);
  }

  private static void drumsChanged() {
    Due.promise(9);
    FortyBelts x = Due.hall();
    Due.due("change", x.change(0, 0, 6), 0);
    Due.due("turns", x.turns(1, 0), 400);
    Due.due("change", x.change(0, 1, 0), 1);
    Due.due("turns", x.turns(1, 0), 200);
    Due.due("the same", x.change(0, 1, 0), 0);
    Due.due("a drum of another belt", x.change(0, 1, 3), 0);
    Due.due("told", x.told(0, 3), 6);
    Due.due("told", x.told(0, 4), 3);
    Due.due("told of another", x.told(1, 4), 3);
    int[][] bad = {{3, 0, 5}, {-1, 0, 5}, {0, -1, 5}, {0, 2, 5}, {0, 0, -1}, {0, 0, 7}, {0, 0, 6}, {0, 1, 0}, {1, 0, 3}, {1, 1, 2}};
    for (int[] b : bad) Due.still("change(" + b[0] + ", " + b[1] + ", " + b[2] + ")", Due::busy, y -> y.change(b[0], b[1], b[2]), -2);
  }

  private static void beltsTold() {
    Due.promise(10);
    int[][] want = {
      {0, 0, 1, 0, 1, 1, 1, 40, 60 + 45, 100 + 30 + 40, 1, 170 * 10},
      {1, 1, 2, 2, 3, 1, -1, 55, 40 + 67 + 45, 30, 0, 30 * 10},
      {3, 1, 3, 4, 5, 1, 1, 47, 118 + 19, 40, 0, 40 * 6},
    };
    for (int belt = 0; belt < 3; belt++) {
      for (int what = 0; what < 12; what++) {
        int b = belt;
        int w = what;
        Due.still("told(" + b + ", " + w + ")", Due::hall, y -> y.told(b, w), want[b][w]);
      }
    }
    int[][] none = {{-1, 0}, {3, 0}, {0, 12}, {0, -1}, {Integer.MAX_VALUE, 0}, {0, Integer.MIN_VALUE}};
    for (int[] n : none) Due.still("told(" + n[0] + ", " + n[1] + ")", Due::busy, y -> y.told(n[0], n[1]), -5);
  }

  private static void beltsThatSlip() {
    FortyBelts x = Due.hall();
    x.engine(0, 25);
    x.set(3, 0, 939);
    Due.due("pull", x.told(2, 9), 939);
    Due.due("just what a great grip holds", x.told(2, 10), 0);
    x.set(3, 0, 940);
    Due.due("one above", x.told(2, 10), 1);
    x = Due.hall();
    x.set(2, 0, 44);
    Due.due("pull", x.told(1, 9), 44);
    Due.due("just what it grips", x.told(1, 10), 0);
    x.set(2, 0, 45);
    Due.due("one above", x.told(1, 10), 1);
    x.throwsOn(1, 0);
    Due.due("pull of one that is off", x.told(1, 9), 0);
    Due.due("slips", x.told(1, 10), 0);
    Due.due("wear of one that is off", x.told(1, 11), 0);
    Due.due("pull without those behind it", x.told(0, 9), 140);
    Due.due("way of one that is off", x.told(1, 6), -1);
    Due.due("hours of those that hang on it", x.told(0, 11), 140 * 8);
    x.set(1, 2, 0);
    Due.due("hours of those that are on", x.told(0, 11), 40 * 6);
    x.set(3, 0, 999);
    Due.due("worn at most", x.told(0, 11), 9999);
  }

  /** Each kind from size 20 to 31, to 99, and from 31 to 20. */
  private static void beltsByKind() {
    int[] above = {2000, 2000, 2000, 2200, 2000, 2000};
    int[] aroundAbove = {155, 155, 155, 165, 155, 155};
    int[] way = {1, -1, 1, 1, 1, 1};
    int[] wrap = {39, 59, 54, 39, 49, 29};
    int[] leastWrap = {10, 30, 25, 10, 20, 15};
    int[] length = {14 + 76, 14 + 76 + 51, 14 + 76 + 10, 14 + 76, 14 + 76, 14 + 76 + 51};
    for (int kind = 0; kind < 6; kind++) {
      FortyBelts x = new FortyBelts();
      x.shaft(12, 9);
      x.shaft(5, 9);
      Due.sizes(x, 20, 31, 99);
      x.belt(kind, 1, 1, 500);
      String of = "kind " + kind + ", ";
      Due.due(of + "told", x.told(0, 0), kind);
      Due.due(of + "above", x.turns(1, 0), above[kind]);
      Due.due(of + "below", x.turns(1, 1), 31);
      Due.due(of + "way", x.told(0, 6), way[kind]);
      Due.due(of + "way of the shaft", x.turns(1, 2), way[kind]);
      Due.due(of + "wrap", x.told(0, 7), wrap[kind]);
      Due.due(of + "long", x.told(0, 8), length[kind]);
      x.change(0, 1, 2);
      Due.due(of + "least wrap", x.told(0, 7), leastWrap[kind]);
      x.change(0, 0, 1);
      x.change(0, 1, 0);
      Due.due(of + "around", x.turns(1, 0), aroundAbove[kind]);
      Due.due(of + "around, wrap", x.told(0, 7), wrap[kind]);
    }
  }

  private static void turnsTold() {
    Due.promise(11);
    long[][] want = {{100, 1, 1, 170, 0}, {200, 1, 1, 170 + 30 + 40, 1}, {100, 1, -1, 30, 0}, {400, 1, 1, 40, 0}};
    for (int shaft = 0; shaft < 4; shaft++) {
      for (int what = 0; what < 5; what++) {
        int s = shaft;
        int w = what;
        Due.still("turns(" + s + ", " + w + ")", Due::hall, y -> y.turns(s, w), want[s][w]);
      }
    }
    int[][] none = {{-1, 0}, {4, 0}, {0, 5}, {0, -1}, {Integer.MIN_VALUE, 0}};
    for (int[] n : none) Due.still("turns(" + n[0] + ", " + n[1] + ")", Due::busy, y -> y.turns(n[0], n[1]), FortyBelts.NO);
    FortyBelts x = Due.hall();
    x.set(1, 0, 30);
    Due.due("just what it may", x.turns(1, 3), 200);
    Due.due("bends", x.turns(1, 4), 0);
    x.set(1, 0, 31);
    Due.due("bends", x.turns(1, 4), 1);
    x.engine(0, 7);
    x.change(0, 0, 5);
    x.change(0, 1, 3);
    Due.due("in lowest terms, above", x.turns(1, 0), 7);
    Due.due("in lowest terms, below", x.turns(1, 1), 6);
    x.throwsOn(0, 0);
    Due.due("stands, above", x.turns(1, 0), 0);
    Due.due("stands, below", x.turns(2, 1), 1);
    Due.due("stands, way", x.turns(2, 2), 0);
    Due.due("way of the engine", x.turns(0, 2), 1);
  }

  /** Seven belts, one behind the other, each from size first to size second. */
  private static FortyBelts chain(int kind, int first, int second) {
    FortyBelts x = Due.shafts(8);
    Due.sizes(x, first, second);
    for (int i = 1; i < 8; i++) x.belt(kind, 10 * (i - 1) + i, 1, 999);
    return x;
  }

  private static void turnsAtTheirMost() {
    FortyBelts x = chain(3, 99, 1);
    x.engine(0, 999);
    long most = 999;
    for (int i = 0; i < 7; i++) most *= 101;
    Due.due("most turns", x.turns(7, 0), most);
    Due.due("most turns, below", x.turns(7, 1), 1);
    x.machine(7, 100, 9999, 1);
    Due.due("cut turns are a million at most", x.runs(2), 1000000);
    Due.due("runs well", x.runs(0), 0);
    FortyBelts y = chain(0, 1, 99);
    y.engine(0, 1);
    Due.due("least turns", y.turns(7, 0), 1);
    Due.due("least turns, below", y.turns(7, 1), 93206534790699L);
    y.machine(7, 999, 9999, 1);
    y.machine(7, 999, 10001, 1);
    Due.due("turn", y.runs(1), 3);
    Due.due("loaded", y.runs(2), 0);
    Due.due("runs well", y.runs(0), 1);
    FortyBelts z = chain(3, 97, 98);
    z.engine(0, 991);
    Due.due("with both long, above", z.turns(7, 0), 991L * 99 * 99 * 99 * 99 * 99 * 99 * 99);
    Due.due("with both long, below", z.turns(7, 1), 98L * 98 * 98 * 98 * 98 * 98 * 98);
  }

  private static void runsTold() {
    Due.promise(12);
    for (int what = 0; what < 3; what++) {
      int w = what;
      Due.still("runs(" + w + ")", Due::hall, y -> y.runs(w), new int[] {15, 15, 170}[w]);
    }
    Due.still("runs(3)", Due::busy, y -> y.runs(3), -2);
    Due.still("runs(-1)", Due::busy, y -> y.runs(-1), -2);
    FortyBelts x = Due.hall();
    x.engine(0, 101);
    Due.due("one wants just 400, one that is off runs well", x.runs(0), 7);
    x.engine(0, 110);
    Due.due("just the most", x.runs(0), 7);
    x.engine(0, 111);
    Due.due("above the most", x.runs(0), 5);
    x.engine(0, 75);
    Due.due("just the least", x.runs(0), 7);
    x.engine(0, 74);
    Due.due("below the least", x.runs(0), 5);
    x.set(0, 2, 1);
    Due.due("one on the engine's shaft", x.runs(0), 5);
    x.throwsOn(1, 0);
    Due.due("turn", x.runs(1), 11);
    x.set(3, 2, 0);
    Due.due("turn, though off", x.runs(1), 11);
    Due.due("loaded, each cut", x.runs(2), 3 + 74);
  }
}
