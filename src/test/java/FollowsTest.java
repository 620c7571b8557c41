/** Promises 16 to 28: what follows from the shafts, machines, drums and belts. */
public final class FollowsTest {
  public static void main(String[] args) {
    judged();
    judgedByDrums();
    chosen();
    chosenOfLikeOnes();
    chosenOfFour();
    chosenRefused();
    laid();
    cuts();
    off();
    hanging();
    bites();
    bitesThatMinded();
    years();
    yearsOfAll();
    started();
    startedInOrder();
    jerks();
    saved();
    imageKept();
    imageAndWhatCameSince();
    counts();
    Due.end();
  }

  private static void judged() {
    Due.promise(16);
    FortyBelts x = Due.hall();
    x.change(0, 1, 4);
    x.engine(1, 1);
    Due.due("a machine", x.judge(), 1001);
    x.set(1, 2, 0);
    Due.due("another one", x.judge(), 1002);
    x.change(0, 1, 1);
    x.set(1, 2, 1);
    Due.due("a belt slips", x.judge(), 2000);
    x.set(1, 0, 0);
    x.set(2, 0, 60);
    x.set(3, 0, 0);
    Due.due("two slip", x.judge(), 2000);
    x = Due.hall();
    x.engine(1, 1);
    x.set(1, 0, 0);
    x.set(2, 0, 48);
    x.set(3, 0, 0);
    Due.due("another slips", x.judge(), 2001);
    x = bending();
    Due.due("the engine's shaft bends", x.judge(), 3000);
    x.set(0, 0, 5);
    Due.due("another one bends", x.judge(), 3001);
    x.set(0, 0, 4);
    Due.due("two belts have a drum", x.judge(), 4000);
    x.change(0, 0, 2);
    Due.due("it stalls", x.judge(), 5000);
    x.engine(1, 4);
    Due.due("all is right", x.judge(), -1);
    Due.still("judge", Due::busy, FortyBelts::judge, 1001);
  }

  /** Two belts from the engine, that share drum 0; machine 0 on shaft 1; shaft 0 may be pulled by 9, shaft 1 by 4. */
  private static FortyBelts bending() {
    FortyBelts x = new FortyBelts();
    x.shaft(0, 9);
    x.shaft(1, 4);
    x.shaft(2, 4);
    Due.sizes(x, 10, 10, 10, 10);
    x.belt(0, 1, 1, 999);
    x.belt(0, 2, 3, 999);
    x.machine(1, 10, 9999, 1);
    x.engine(1, 3);
    return x;
  }

  private static void judgedByDrums() {
    FortyBelts x = Due.shafts(4);
    Due.sizes(x, 10, 10, 10, 10);
    x.belt(0, 1, 203, 9);
    x.belt(0, 2, 201, 9);
    x.belt(0, 3, 301, 9);
    Due.due("drums 1, 2, 3 are on two", x.judge(), 4001);
    x.throwsOn(1, 0);
    Due.due("by belts on or off", x.judge(), 4001);
    x.change(1, 1, 0);
    Due.due("drums 2, 3 are on two", x.judge(), 4002);
    x.change(1, 0, 1);
    Due.due("drum 1 too", x.judge(), 4001);
    x.change(2, 1, 0);
    Due.due("drum 0 too, at driven ends", x.judge(), 4000);
    FortyBelts y = Due.shafts(4);
    Due.sizes(y, 10, 10, 10, 10, 10);
    y.belt(0, 1, 1, 9);
    y.belt(0, 2, 203, 9);
    y.belt(0, 3, 104, 9);
    Due.due("one drum, on the first and the last", y.judge(), 4001);
    y.change(2, 0, 0);
    Due.due("one drum, at ends that drive", y.judge(), 4000);
  }

  private static void chosen() {
    Due.promise(17);
    int[] now = {1, 3, 5};
    Due.still("choose(0)", Due::hall, y -> y.choose(0), 4);
    Due.still("choose(1)", Due::hall, y -> y.choose(1), 0);
    for (int b = 0; b < 3; b++) {
      int belt = b;
      Due.still("choose(1" + b + ")", Due::hall, y -> y.choose(10 + belt), now[belt]);
    }
    FortyBelts x = Due.hall();
    x.change(2, 1, 6);
    Due.due("how many", x.choose(0), 4);
    Due.due("one other", x.choose(1), 1);
    Due.due("which", x.choose(12), 5);
    Due.due("which stays", x.choose(10), 1);
    x.change(0, 1, 5);
    Due.due("two others", x.choose(1), 2);
    Due.due("which", x.choose(12), 5);
    Due.due("which", x.choose(10), 1);
    x.set(3, 2, 0);
    Due.due("one that is off runs well", x.choose(0), 4);
    Due.due("one other suffices", x.choose(1), 1);
    Due.due("which", x.choose(10), 1);
    Due.due("which stays", x.choose(12), 6);
  }

  private static void chosenOfLikeOnes() {
    FortyBelts x = Due.shafts(3);
    Due.sizes(x, 10, 30, 20, 31, 20, 20, 20, 40);
    x.belt(0, 1, 2, 9);
    x.belt(0, 2, 107, 9);
    x.machine(1, 1, 500050, 1);
    x.machine(2, 1, 1500150, 1);
    Due.due("both", x.choose(0), 2);
    Due.due("as few as can be", x.choose(1), 1);
    Due.due("the one that it has", x.choose(10), 2);
    Due.due("the least of the others", x.choose(11), 4);
    x.change(0, 1, 6);
    Due.due("the one that it has, though the greatest", x.choose(10), 6);
    Due.due("the least of the others", x.choose(11), 2);
    x.change(0, 1, 3);
    Due.due("both changed", x.choose(1), 2);
    Due.due("the first by belts", x.choose(10), 2);
    Due.due("the next", x.choose(11), 4);
    x.set(0, 2, 0);
    Due.due("one changed", x.choose(1), 1);
    Due.due("the first by belts", x.choose(10), 3);
    Due.due("the next", x.choose(11), 2);
    x.change(0, 1, 1);
    Due.due("a drum at two ends is no way", x.choose(1), 2);
    Due.due("the least that is free", x.choose(10), 2);
    Due.due("another one", x.choose(11), 4);
  }

  /** Six belts from the engine, each with drums of its own; two more drums. */
  private static FortyBelts six() {
    FortyBelts x = Due.shafts(8);
    Due.sizes(x, 10, 20, 10, 20, 10, 20, 10, 20, 10, 20, 25, 10);
    for (int i = 0; i < 5; i++) x.belt(0, i + 1, 100 * (2 * i) + 2 * i + 1, 9);
    for (int i = 0; i < 5; i++) x.machine(i + 1, 1, 400040, 1);
    return x;
  }

  private static void chosenOfFour() {
    FortyBelts x = six();
    Due.due("one of the first 4 can have the drum", x.choose(0), 1);
    Due.due("the last of them, so that the first have the least", x.choose(13), 10);
    Due.due("the first", x.choose(10), 1);
    Due.due("others", x.choose(1), 1);
    Due.due("a fifth one is no belt of these", x.choose(14), -2);
    for (int i = 0; i < 4; i++) x.set(i, 2, 0);
    Due.due("the fifth one stays", x.choose(0), 4);
    Due.due("others", x.choose(1), 0);
    x.change(4, 1, 11);
    Due.due("a drum of the fifth one is not free", x.choose(0), 4);
    x.change(4, 1, 0);
    Due.due("two ends that stay", x.choose(0), -1);
    x.change(4, 1, 9);
    x.change(4, 0, 0);
    Due.due("two ends that stay, both drive", x.choose(0), -1);
    x.change(4, 0, 8);
    x.throwsOn(0, 0);
    x.change(0, 0, 9);
    Due.due("two ends that stay, one off", x.choose(0), -1);
    x.change(0, 0, 0);
    x.belt(0, 6, 1011, 9);
    Due.due("no more than its own", x.choose(0), 4);
    x.change(2, 1, 1);
    Due.due("two free ends with one drum", x.choose(1), 1);
    Due.due("the first keeps it", x.choose(10), 1);
    Due.due("the other has what is left", x.choose(12), 5);
    FortyBelts y = Due.shafts(3);
    Due.sizes(y, 1, 2);
    y.belt(0, 1, 100, 9);
    Due.due("drum 0", y.choose(10), 0);
    Due.due("drum 0", y.choose(1), 0);
    y = Due.shafts(3);
    Due.sizes(y, 1, 2, 3);
    y.belt(0, 1, 1, 9);
    y.belt(0, 2, 201, 9);
    Due.due("too few drums", y.choose(0), -1);
    Due.due("too few drums", y.choose(11), -1);
    y.drum(4);
    Due.due("enough", y.choose(11), 3);
  }

  private static void chosenRefused() {
    for (int what : new int[] {-1, 2, 9, 13, 14, 20, Integer.MIN_VALUE, Integer.MAX_VALUE}) {
      Due.still("choose(" + what + ")", Due::busy, y -> y.choose(what), -2);
    }
    Due.Maker none = () -> {
      FortyBelts y = Due.hall();
      y.change(1, 0, 0);
      return y;
    };
    for (int what : new int[] {0, 1, 10, 12}) Due.still("choose(" + what + ")", none, y -> y.choose(what), -1);
    Due.still("choose, bad ahead of none", none, y -> y.choose(13), -2);
  }

  private static void laid() {
    Due.promise(18);
    FortyBelts x = Due.hall();
    Due.due("lay, as it is", x.lay(), 0);
    x.change(2, 1, 6);
    x.change(0, 1, 5);
    Due.due("lay", x.lay(), 2);
    Due.due("drum", x.told(0, 4), 1);
    Due.due("drum", x.told(1, 4), 3);
    Due.due("drum", x.told(2, 4), 5);
    Due.due("turns", x.turns(3, 0), 400);
    Due.due("run well", x.runs(0), 15);
    Due.due("lay again", x.lay(), 0);
    x.change(1, 0, 0);
    Due.due("lay, none", x.lay(), -1);
    Due.Maker none = () -> {
      FortyBelts y = Due.busy();
      y.change(1, 0, 0);
      return y;
    };
    Due.still("lay, none", none, FortyBelts::lay, -1);
    Due.due("lay, no belts", new FortyBelts().lay(), 0);
    FortyBelts y = six();
    Due.due("lay", y.lay(), 1);
    Due.due("a fifth one stays", y.told(4, 4), 9);
    Due.due("the fourth", y.told(3, 4), 10);
  }

  private static void cuts() {
    Due.promise(19);
    int[] want = {10, 4, 13};
    for (int what = 0; what < 3; what++) {
      int w = what;
      Due.still("cut(0, " + w + ")", Due::hall, y -> y.cut(0, w), want[w]);
    }
    FortyBelts x = Due.hall();
    x.set(3, 2, 0);
    Due.due("the cheapest", x.cut(0, 0), 10);
    Due.rule(x, "1", "1", "100 - size");
    Due.due("the cheapest", x.cut(0, 0), 13);
    Due.due("how many", x.cut(0, 1), 4);
    Due.due("what it costs", x.cut(0, 2), 87);
    Due.rule(x, "1", "1", "7");
    Due.due("the least", x.cut(0, 0), 10);
    Due.rule(x, "1", "1", "9 - (size = 12)");
    Due.due("the cheapest in the midst", x.cut(0, 0), 12);
    x.set(3, 2, 1);
    Due.due("most ahead of cheapest", x.cut(0, 0), 10);
    x.throwsOn(0, 0);
    Due.due("one that is off", x.cut(0, 0), 12);
    Due.due("how many", x.cut(0, 1), 1);
    x = Due.hall();
    x.machine(3, 1, 210021, 1);
    x.set(3, 2, 0);
    x.set(1, 2, 0);
    x.change(2, 0, 1);
    x.change(0, 0, 5);
    x.change(0, 1, 6);
    x.set(2, 2, 0);
    Due.due("as the fraction: 150 by 7 is not 21", x.cut(2, 1), 4);
    FortyBelts y = Due.shafts(2);
    Due.sizes(y, 99, 1);
    y.belt(0, 1, 1, 9);
    y.machine(1, 1, 1000100, 1);
    Due.due("the greatest size", y.cut(0, 0), 99);
    int[][] bad = {{-1, 0}, {3, 0}, {0, -1}, {0, 3}};
    for (int[] b : bad) Due.still("cut(" + b[0] + ", " + b[1] + ")", Due::busy, z -> z.cut(b[0], b[1]), -2);
  }

  private static void off() {
    Due.promise(20);
    int[] want = {14, 4, 8};
    for (int b = 0; b < 3; b++) {
      int belt = b;
      Due.still("off(" + b + ")", Due::hall, y -> y.off(belt), want[belt]);
    }
    FortyBelts x = Due.hall();
    x.set(1, 2, 0);
    Due.due("one that is off stands too", x.off(0), 14);
    x.throwsOn(1, 0);
    Due.due("one that stands now", x.off(0), 10);
    Due.due("a belt that is off", x.off(1), 0);
    Due.due("it stays off", x.told(1, 5), 0);
    Due.due("it stays on", x.told(0, 5), 1);
    for (int belt : new int[] {-1, 3, Integer.MAX_VALUE}) Due.still("off(" + belt + ")", Due::busy, y -> y.off(belt), -2);
  }

  private static void hanging() {
    Due.promise(21);
    Due.still("hangs", Due::hall, FortyBelts::hangs, 0);
    FortyBelts x = Due.shafts(5);
    Due.sizes(x, 1, 2);
    for (int i = 1; i <= 4; i++) x.belt(0, i, 1, 9);
    Due.due("no machine", x.hangs(), -1);
    x.machine(0, 1, 9999, 1);
    Due.due("one on the engine's shaft", x.hangs(), -1);
    x.machine(3, 1, 9999, 1);
    Due.due("one", x.hangs(), 2);
    x.machine(2, 1, 9999, 1);
    Due.due("the least of like ones", x.hangs(), 1);
    x.machine(3, 1, 9999, 1);
    Due.due("most", x.hangs(), 2);
    x.set(1, 2, 0);
    Due.due("of those that are on", x.hangs(), 1);
    x.throwsOn(1, 0);
    Due.due("of those that turn", x.hangs(), 2);
    x.set(3, 2, 0);
    Due.due("none that is on", x.hangs(), -1);
  }

  private static void bites() {
    Due.promise(22);
    Due.still("just the power", Due::hall, y -> y.bite(1, 415), 0);
    Due.still("a little above it", Due::hall, y -> y.bite(1, 416), 0);
    Due.still("one minds", Due::hall, y -> y.bite(1, 440), 8);
    Due.still("a fall of 5 is not minded", Due::hall, y -> y.bite(1, 445), 8);
    Due.still("two mind", Due::hall, y -> y.bite(1, 450), 12);
    Due.still("not itself", Due::hall, y -> y.bite(3, 300), 6);
    Due.still("one that is off bites not", Due::hall, y -> y.bite(0, 9999), 0);
    FortyBelts x = Due.hall();
    x.engine(1, 169);
    Due.due("just above without more, falls are cut", x.bite(1, 0), 0);
    x.set(0, 2, 1);
    Due.due("all", x.bite(1, 9999), 13);
    x.set(2, 2, 0);
    Due.due("not one that is off", x.bite(1, 9999), 9);
    x.throwsOn(2, 0);
    Due.due("not one that stands", x.bite(1, 9999), 1);
    Due.due("one that stands bites not", x.bite(3, 9999), 0);
    int[][] bad = {{-1, 0}, {4, 0}, {0, -1}, {0, 10000}};
    for (int[] b : bad) Due.still("bite(" + b[0] + ", " + b[1] + ")", Due::busy, y -> y.bite(b[0], b[1]), -2);
  }

  private static void bitesThatMinded() {
    FortyBelts x = Due.rule(Due.hall(), "1", "1", "1");
    Due.due("none, if it stalls not", x.bite(1, 415), 0);
    Due.due("all that are on, though nothing falls", x.bite(1, 416), 12);
    x.throwsOn(2, 0);
    Due.due("not one that stands", x.bite(1, 9999), 4);
    FortyBelts y = Due.rule(Due.hall(), "1", "wrap = 26", "1");
    Due.due("a fall of 26 of 400", y.bite(1, 450), 8);
    FortyBelts z = Due.shafts(8);
    Due.sizes(z, 99, 1);
    for (int i = 1; i < 8; i++) z.belt(0, 10 * (i - 1) + i, 1, 9);
    z.machine(7, 999, 9999, 1);
    z.machine(7, 999, 9999, 1);
    Due.rule(z, "1", "wrap = 999990", "1");
    z.engine(1, 1000);
    Due.due("great numbers", z.bite(0, 9999), 2);
    Due.due("loaded", z.runs(2), 2 * 9990000);
  }

  private static void years() {
    Due.promise(23);
    long[][] want = {{0, 1, 1}, {0, 1700, 1}, {0, 1701, 2}, {0, 999999, 589}, {1, 300, 1}, {1, 301, 2}, {2, 999999, 4167}, {2, 240, 1}};
    for (long[] w : want) Due.still("years of " + w[0] + ", " + w[1], Due::hall, y -> y.years((int) w[0], (int) w[1], 0), w[2]);
    FortyBelts x = Due.hall();
    x.throwsOn(2, 0);
    Due.due("one that wears not", x.years(2, 5, 0), -1);
    Due.rule(x, "1", "1", "1");
    Due.due("a day each", x.years(2, 999999, 0), 999999);
    int[][] bad = {{-1, 5, 0}, {3, 5, 0}, {0, 0, 0}, {0, 1000000, 0}, {0, -5, 0}, {0, 5, 2}, {0, 5, -1}, {0, 0, 1}, {0, 1000000, 1}};
    for (int[] b : bad) Due.still("years(" + b[0] + ", " + b[1] + ", " + b[2] + ")", Due::busy, y -> y.years(b[0], b[1], b[2]), -2);
  }

  private static void yearsOfAll() {
    Due.still("first", Due::hall, y -> y.years(99, 999999, 1), 0);
    Due.still("first, any belt", Due::hall, y -> y.years(-1, 999999, 1), 0);
    FortyBelts x = Due.rule(Due.hall(), "kind * 10", "1", "1");
    Due.due("not one that wears not", x.years(0, 30, 1), 2);
    Due.due("the least of like days", x.years(0, 10, 1), 1);
    Due.due("the fewest days", x.years(0, 11, 1), 2);
    Due.rule(x, "0 - 5", "1", "1");
    Due.due("none wears", x.years(0, 5, 1), -1);
    Due.due("none at all", new FortyBelts().years(0, 5, 1), -1);
  }

  private static void started() {
    Due.promise(24);
    Due.still("start(0)", Due::hall, y -> y.start(0), 12);
    Due.still("start(1)", Due::hall, y -> y.start(1), 100);
    FortyBelts x = Due.hall();
    x.engine(1, 170);
    Due.due("just the power", x.start(0), 12);
    x.engine(1, 169);
    Due.due("stalls at the end", x.start(0), -1);
    Due.due("stalls at the end", x.start(1), -1);
    x.throwsOn(2, 0);
    Due.due("without the last", x.start(0), 1);
    x.throwsOn(0, 0);
    Due.due("hangs on one that is off", x.start(0), -1);
    x.throwsOn(1, 0);
    Due.due("without any", x.start(0), 0);
    Due.due("without any", x.start(1), 0);
    x.set(0, 2, 1);
    x.engine(1, 5);
    Due.due("without any, just the power", x.start(0), 0);
    x.engine(1, 4);
    Due.due("stalls ahead of them", x.start(0), -1);
    Due.due("stalls ahead of them", x.start(1), -1);
    for (int what : new int[] {-1, 2}) Due.still("start(" + what + ")", Due::busy, y -> y.start(what), -2);
  }

  private static void startedInOrder() {
    FortyBelts x = Due.shafts(8);
    Due.sizes(x, 1, 2);
    x.belt(0, 23, 1, 9);
    Due.due("hangs on a shaft that stands", x.start(0), -1);
    x.belt(0, 12, 1, 9);
    x.belt(0, 1, 1, 9);
    Due.due("the last first", x.start(0), 210);
    x.belt(0, 4, 1, 9);
    Due.due("the least that can be, not the nearest", x.start(0), 2103);
    x.belt(0, 45, 1, 9);
    x.belt(0, 6, 1, 9);
    x.belt(0, 67, 1, 9);
    Due.due("all", x.start(0), 2103456);
    x.throwsOn(1, 0);
    Due.due("one off in the midst", x.start(0), -1);
    x.throwsOn(0, 0);
    Due.due("and those behind it", x.start(0), 23456);
    x.throwsOn(2, 0);
    x.throwsOn(3, 0);
    x.throwsOn(4, 0);
    Due.due("the others", x.start(0), 56);
  }

  private static void jerks() {
    FortyBelts x = Due.hall();
    x.machine(2, 75, 9999, 1);
    Due.due("two on a shaft together", x.start(1), 105);
    x.set(4, 2, 0);
    x.set(1, 2, 0);
    Due.due("the last belt's", x.start(1), 40);
    x.set(0, 2, 1);
    x.set(0, 0, 500);
    Due.due("not what is loaded ahead of them", x.start(1), 40);
    x.throwsOn(2, 0);
    Due.due("not by one that is off", x.start(1), 30);
  }

  private static void saved() {
    Due.promise(25);
    Due.still("save", Due::hall, FortyBelts::save, 0);
    FortyBelts x = Due.hall();
    x.set(2, 2, 0);
    Due.due("one", x.save(), 4);
    x.set(1, 2, 0);
    Due.due("one that another hangs on", x.save(), 4);
    x.throwsOn(2, 0);
    Due.due("one that stands hangs on none", x.save(), 6);
    x.throwsOn(2, 1);
    x.set(3, 2, 0);
    Due.due("all but the engine's", x.save(), 14);
    x.throwsOn(1, 0);
    Due.due("not one that stands", x.save(), 10);
    x.throwsOn(0, 0);
    Due.due("none turns", x.save(), 0);
    FortyBelts y = Due.shafts(3);
    Due.sizes(y, 1, 99);
    y.engine(0, 1);
    y.belt(0, 1, 1, 9);
    y.belt(0, 12, 1, 9);
    Due.due("turns below 1", y.save(), 6);
  }

  private static void imageKept() {
    Due.promise(26);
    Due.still("image, seen by what shows", () -> {
      FortyBelts y = Due.hall();
      y.image();
      return y;
    }, FortyBelts::image, 3);
    Due.due("image, no belts", new FortyBelts().image(), 0);
    FortyBelts x = Due.hall();
    x.set(1, 0, 51);
    x.image();
    x.set(1, 0, 52);
    Due.due("an image anew", x.image(), 3);
    x.set(1, 0, 53);
    x.back();
    Due.due("load of the later one", x.set(1, 0, 1), 52);
    x.back();
    Due.due("back keeps the image", x.set(1, 0, 1), 52);
    Due.promise(27);
    Due.still("back, none", Due::hall, FortyBelts::back, -3);
  }

  private static void imageAndWhatCameSince() {
    Due.promise(27);
    FortyBelts r = Due.rule(Due.hall(), "5", "1", "1");
    r.image();
    r.force(0);
    r.back();
    Due.due("a rule that is not the first", r.count(6), 1);
    FortyBelts x = Due.hall();
    x.throwsOn(2, 0);
    x.image();
    x.engine(0, 5);
    x.engine(1, 6);
    Due.rule(x, "1", "1", "1");
    for (int b = 0; b < 3; b++) x.throwsOn(b, b == 2 ? 1 : 0);
    x.change(0, 0, 6);
    x.change(0, 1, 0);
    x.set(1, 0, 1);
    x.set(1, 1, 2);
    x.set(1, 2, 0);
    x.set(0, 2, 1);
    x.shaft(50, 50);
    x.drum(9);
    x.belt(1, 34, 706, 9);
    x.machine(4, 7, 9999, 3);
    x.throwsOn(3, 0);
    x.set(4, 2, 0);
    Due.feed(x, "wear");
    Due.sheetOf(x, 0, 0, 5);
    Due.due("back", x.back(), 4);
    int[] on = {1, 1, 0, 0};
    for (int b = 0; b < 4; b++) Due.due("belt " + b + " on", x.told(b, 5), on[b]);
    Due.due("drum", x.told(0, 3), 0);
    Due.due("drum", x.told(0, 4), 1);
    Due.due("size", x.told(0, 8), 105);
    Due.due("turns", x.turns(2, 0), 100);
    Due.due("drum of one that came since", x.told(3, 3), 7);
    Due.due("load", x.set(1, 0, 50), 50);
    Due.due("hours stay", x.set(1, 1, 8), 2);
    Due.due("on", x.set(1, 2, 1), 1);
    Due.due("off", x.set(0, 2, 0), 0);
    Due.due("load of one that came since", x.set(4, 0, 7), 7);
    Due.due("off, of one that came since", x.set(4, 2, 0), 0);
    Due.due("texts", x.count(4), 2);
    Due.due("the rule", x.count(6), 0);
    Due.due("shafts", x.count(0), 5);
    Due.due("drums", x.count(2), 8);
    Due.due("the tape", x.count(5), 4);
    Due.due("sheet", x.cell(0, 0, 1), 1);
    Due.due("turns of the engine", x.engine(0, 100), 100);
    Due.due("power of the engine", x.engine(1, 1000), 1000);
    x.throwsOn(3, 1);
    Due.due("back again", x.back(), 4);
    Due.due("one that came since stays", x.told(3, 5), 1);
  }

  private static void counts() {
    Due.promise(28);
    FortyBelts x = Due.hall();
    Due.feed(x, "wear 1;mind 1;want 1;");
    x.text();
    x.force(1);
    Due.feed(x, "1234567");
    int[] want = {4, 4, 7, 3, 2, 7, 1};
    for (int what = 0; what < 7; what++) Due.due("count(" + what + ")", x.count(what), want[what]);
    for (int what : new int[] {-1, 7, Integer.MIN_VALUE}) Due.still("count(" + what + ")", Due::busy, y -> y.count(what), -2);
  }
}
