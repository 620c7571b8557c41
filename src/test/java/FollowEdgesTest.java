/** The edges that the words of promises 16 to 28 name, and Terms for them: what follows. */
public final class FollowEdgesTest {
  private static final int LEAST = Integer.MIN_VALUE, MOST = Integer.MAX_VALUE;
  private static final int NONE = -1, BAD = -2, STATE = -3;

  public static void main(String[] args) {
    Edges.run(FollowEdgesTest.class, 16, 28);
  }

  /** The engine's shaft drives n others, each by a belt with grip 999; all drums are of size 10, all may be pulled by 9999. */
  private static FortyBelts star(int n) {
    FortyBelts x = wide(n + 1);
    Due.sizes(x, 10, 10, 10, 10, 10, 10, 10, 10, 10, 10, 10, 10);
    for (int i = 0; i < n; i++) x.belt(0, i + 1, i < 6 ? 200 * i + 2 * i + 1 : 1, 999);
    return x;
  }

  private static FortyBelts wide(int shafts) {
    FortyBelts x = new FortyBelts();
    for (int i = 0; i < shafts; i++) x.shaft(0, 9999);
    return x;
  }

  // ---- promise 16

  static void promise16_nothingIsThereYet() {
    Due.refused(FortyBelts::new, NONE, "judge");
    Due.answers(Due.shafts(8), NONE, "judge");
    Due.answers(star(6), NONE, "judge");
  }

  static void promise16_theFirstAndTheLastMachine() {
    FortyBelts x = wide(1);
    for (int i = 0; i < 9; i++) x.machine(0, 1, 1000100, 1);
    x.machine(0, 1, 1010101, 1);
    Due.answers(x, 1009, "judge");
    x.set(9, 2, 0);
    Due.answers(x, NONE, "judge");
    x.engine(0, 101);
    Due.answers(x, 1000, "judge");
    x.set(0, 2, 0);
    Due.answers(x, 1001, "judge");
  }

  static void promise16_theFirstAndTheLastBelt() {
    for (int ill = 0; ill < 7; ill++) {
      FortyBelts x = wide(8);
      Due.sizes(x, 10, 10);
      for (int i = 0; i < 7; i++) x.belt(0, i + 1, 1, i == ill ? 1 : 2);
      for (int i = 0; i < 7; i++) x.machine(i + 1, 2, 9999, 1);
      Due.answers(x, 2000 + ill, "judge");
      x.throwsOn(ill, 0);
      Due.answers(x, 4000, "judge");
    }
  }

  static void promise16_theFirstAndTheLastShaft() {
    for (int ill = 0; ill < 8; ill++) {
      FortyBelts x = new FortyBelts();
      for (int i = 0; i < 8; i++) x.shaft(0, (i == 0 ? 14 : 2) - (i == ill ? 1 : 0));
      Due.sizes(x, 10, 10);
      for (int i = 0; i < 7; i++) x.belt(0, i + 1, 1, 999);
      for (int i = 0; i < 7; i++) x.machine(i + 1, 2, 9999, 1);
      Due.answers(x, 3000 + ill, "judge");
    }
  }

  static void promise16_theFirstAndTheLastDrum() {
    for (int shared = 0; shared < 12; shared++) {
      FortyBelts x = wide(3);
      Due.sizes(x, 10, 10, 10, 10, 10, 10, 10, 10, 10, 10, 10, 10);
      x.belt(0, 1, (shared + 1) % 12 * 100 + (shared + 2) % 12, 9);
      x.belt(0, 2, (shared + 3) % 12 * 100 + (shared + 4) % 12, 9);
      Due.answers(x, NONE, "judge");
      x.change(0, 0, shared);
      Due.answers(x, NONE, "judge");
      x.change(1, 1, shared);
      Due.answers(x, 4000 + shared, "judge");
      x.throwsOn(0, 0);
      Due.answers(x, 4000 + shared, "judge");
      x.throwsOn(1, 0);
      Due.answers(x, 4000 + shared, "judge");
    }
  }

  static void promise16_theFirstOfSharedDrums() {
    FortyBelts x = star(3);
    x.change(0, 1, 5);
    Due.answers(x, 4005, "judge");
    x.change(2, 0, 1);
    Due.answers(x, 4005, "judge");
    x.change(1, 0, 6);
    x.change(2, 0, 6);
    Due.answers(x, 4005, "judge");
    x.change(0, 1, 3);
    Due.answers(x, 4003, "judge");
    x.change(1, 1, 0);
    Due.answers(x, 4000, "judge");
  }

  static void promise16_itStallsAboveItsPower() {
    FortyBelts x = wide(1);
    x.machine(0, 1, 9999, 1);
    x.engine(1, 1);
    Due.answers(x, NONE, "judge");
    x.set(0, 0, 2);
    Due.answers(x, 5000, "judge");
    x.set(0, 2, 0);
    Due.answers(x, NONE, "judge");
  }

  /** Nine machines load 1008 each at 101 turns, the last one 927 or 928. */
  static void promise16_itStallsAboveItsMostPower() {
    FortyBelts x = wide(1);
    for (int i = 0; i < 9; i++) x.machine(0, 999, 9999, 1);
    x.machine(0, 918, 9999, 1);
    x.engine(0, 101);
    x.engine(1, 9999);
    Due.answers(x, 9999, "runs", 2);
    Due.answers(x, NONE, "judge");
    x.set(9, 0, 919);
    Due.answers(x, 10000, "runs", 2);
    Due.answers(x, 5000, "judge");
  }

  /** All ways in which a machine, a belt, a shaft, a drum and the engine are wrong or not. */
  static void promise16_theFirstThatIsWrong() {
    for (int wrong = 0; wrong < 32; wrong++) {
      FortyBelts x = new FortyBelts();
      x.shaft(0, (wrong & 4) != 0 ? 99 : 100);
      x.shaft(0, 100);
      x.shaft(0, 100);
      Due.sizes(x, 10, 10, 10, 10);
      x.belt(0, 1, 1, (wrong & 2) != 0 ? 99 : 100);
      x.belt(0, 2, (wrong & 8) != 0 ? 300 : 203, 999);
      x.machine(1, 100, (wrong & 1) != 0 ? 99 : 100, 1);
      x.engine(1, (wrong & 16) != 0 ? 99 : 100);
      int first = wrong == 0 ? NONE : 1000 * (1 + Integer.numberOfTrailingZeros(wrong));
      Due.due("judge, wrong is " + wrong, x.judge(), first);
    }
  }

  // ---- promise 17

  static void promise17_withoutBelts() {
    Due.refused(FortyBelts::new, 0, "choose", 0);
    Due.refused(FortyBelts::new, 0, "choose", 1);
    FortyBelts x = wide(2);
    x.machine(0, 1, 9999, 1);
    x.machine(1, 1, 10001, 1);
    Due.answers(x, 1, "choose", 0);
    Due.answers(x, 0, "choose", 1);
  }

  static void promise17_theFirst4AsManyAsThereAre() {
    for (int belts = 0; belts < 8; belts++) {
      FortyBelts x = Due.shafts(belts + 1);
      Due.sizes(x, 1, 2, 3, 4, 5, 6, 7, 8, 9, 10, 11, 12);
      for (int i = 0; i < belts; i++) x.belt(0, i + 1, i < 6 ? 202 * i + 1 : 1, 9);
      // The seventh one has drums of the first, so that there is no way.
      for (int i = 0; i < 8; i++) Due.answers(x, i >= Math.min(4, belts) ? BAD : belts == 7 ? NONE : 2 * i + 1, "choose", 10 + i);
    }
  }

  static void promise17_whatIs0Or1OrOfABelt() {
    for (int what : new int[] {-1, 2, 9, 14, 20, LEAST, MOST}) Due.refusedAnywhere(BAD, "choose", what);
    Due.refused(Due::hall, BAD, "choose", 13);
    Due.refused(FortyBelts::new, BAD, "choose", 10);
  }

  private static FortyBelts withoutAWay() {
    FortyBelts x = Due.hall();
    x.change(1, 0, 0);
    return x;
  }

  /** Belts 0 and 2 would have other drums. */
  private static FortyBelts toBeChosen() {
    FortyBelts x = Due.hall();
    x.change(2, 1, 6);
    x.change(0, 1, 5);
    return x;
  }

  static void promise17_itIsNotLaidYet() {
    Due.refused(FollowEdgesTest::toBeChosen, 4, "choose", 0);
    Due.refused(FollowEdgesTest::toBeChosen, 2, "choose", 1);
    Due.refused(FollowEdgesTest::toBeChosen, 1, "choose", 10);
    Due.refused(FollowEdgesTest::toBeChosen, 3, "choose", 11);
    Due.refused(FollowEdgesTest::toBeChosen, 5, "choose", 12);
    Due.answers(toBeChosen(), 2, "lay");
  }

  static void promise17_badIsAheadOfNone() {
    for (int what : new int[] {0, 1, 10, 11, 12}) Due.refused(FollowEdgesTest::withoutAWay, NONE, "choose", what);
    for (int what : new int[] {-1, 2, 9, 13, 14}) Due.refused(FollowEdgesTest::withoutAWay, BAD, "choose", what);
  }

  static void promise17_asManyDrumsAsEnds() {
    for (int belts = 1; belts < 5; belts++) {
      FortyBelts x = wide(belts + 1);
      for (int i = 0; i < 2 * belts - 1; i++) x.drum(10);
      if (belts == 1) x.drum(10);
      // At first all driven ends have the second drum.
      for (int i = 0; i < belts; i++) x.belt(0, i + 1, i == 0 ? 1 : 201 + 100 * (i - 1), 9);
      if (belts > 1) {
        Due.answers(x, NONE, "choose", 0);
        Due.answers(x, NONE, "lay");
        x.drum(10);
      }
      Due.answers(x, belts - 1, "choose", 1);
      Due.answers(x, 1, "choose", 10);
      for (int i = 1; i < belts; i++) Due.answers(x, belts + i, "choose", 10 + i);
    }
  }

  /** Belts 0 to 4 with drums 2i, 2i + 1; a machine on shaft 1 that runs well by drum 10 alone. */
  private static FortyBelts five() {
    FortyBelts x = wide(6);
    Due.sizes(x, 10, 10, 10, 10, 10, 10, 10, 10, 10, 10, 25, 10);
    for (int i = 0; i < 5; i++) x.belt(0, i + 1, 202 * i + 1, 9);
    x.machine(1, 1, 400040, 1);
    return x;
  }

  static void promise17_noDrumIsAtTwoEnds() {
    Due.answers(five(), 1, "choose", 0);
    Due.answers(five(), 10, "choose", 10);
    for (int end = 0; end < 2; end++) {
      for (int belt : new int[] {1, 4}) {
        FortyBelts x = five();
        x.change(belt, end, 10);
        boolean isFree = belt == 1 && end == 1;
        Due.answers(x, isFree ? 1 : 0, "choose", 0);
        Due.answers(x, isFree ? 2 : 0, "choose", 1);
        x.throwsOn(belt, 0);
        Due.answers(x, isFree ? 1 : 0, "choose", 0);
      }
    }
  }

  static void promise17_noneIfEndsThatStayAreAlike() {
    int[][] ends = {{1, 0, 0}, {4, 0, 0}, {4, 1, 0}, {4, 1, 2}, {4, 0, 6}, {3, 0, 8}, {3, 0, 9}};
    for (int[] end : ends) {
      FortyBelts x = five();
      x.change(end[0], end[1], end[2]);
      Due.answers(x, NONE, "choose", 0);
      x.throwsOn(end[0], 0);
      Due.answers(x, NONE, "choose", 10);
      Due.answers(x, NONE, "lay");
    }
    FortyBelts y = five();
    y.change(4, 1, 1);
    Due.answers(y, 1, "choose", 0);
  }

  static void promise17_theDrumThatItHasIfNoneIsBetter() {
    for (int drum = 1; drum < 12; drum++) {
      FortyBelts x = star(1);
      x.change(0, 1, drum);
      x.machine(1, 1, 1000100, 1);
      x.machine(1, 1, 2000200, 1);
      Due.answers(x, 1, "choose", 0);
      Due.answers(x, 0, "choose", 1);
      Due.answers(x, drum, "choose", 10);
    }
  }

  static void promise17_theFirstAndTheLastDrum() {
    for (int best = 0; best < 12; best++) {
      FortyBelts x = wide(2);
      for (int i = 0; i < 12; i++) x.drum(i == best ? 50 : 10);
      int other = best < 6 ? 6 : 0;
      x.belt(0, 1, 100 * other + other + 1, 9);
      x.machine(1, 1, 200020, 1);
      Due.answers(x, 1, "choose", 0);
      Due.answers(x, 1, "choose", 1);
      Due.answers(x, best, "choose", 10);
    }
  }

  static void promise17_mostThatRunWellAheadOfFewestOthers() {
    FortyBelts x = wide(3);
    Due.sizes(x, 10, 10, 10, 10, 20, 25);
    x.belt(0, 1, 1, 9);
    x.belt(0, 2, 203, 9);
    x.machine(1, 1, 1000100, 1);
    x.machine(1, 1, 500050, 1);
    x.machine(1, 1, 500050, 1);
    x.machine(2, 1, 400040, 1);
    Due.answers(x, 3, "choose", 0);
    Due.answers(x, 2, "choose", 1);
    Due.answers(x, 4, "choose", 10);
    Due.answers(x, 5, "choose", 11);
    x.set(2, 2, 0);
    // Two are like, so the drum that it has.
    Due.answers(x, 3, "choose", 0);
    Due.answers(x, 1, "choose", 1);
    Due.answers(x, 1, "choose", 10);
  }

  /** Both driven ends have one drum: one of them must have another one. */
  static void promise17_ofLikeOnesTheFirstByBelts() {
    int[][] rows = {{2, 2, 3}, {3, 2, 3}, {4, 2, 4}, {5, 2, 5}};
    for (int[] row : rows) {
      FortyBelts x = wide(3);
      Due.sizes(x, 10, 10, 10, 10, 10, 10);
      x.belt(0, 1, row[0], 9);
      x.belt(0, 2, 100 + row[0], 9);
      Due.answers(x, 1, "choose", 1);
      Due.answers(x, row[1], "choose", 10);
      Due.answers(x, row[2], "choose", 11);
    }
  }

  // ---- promise 18

  static void promise18_withoutBelts() {
    Due.refused(FortyBelts::new, 0, "lay");
    Due.refused(() -> Due.shafts(8), 0, "lay");
  }

  static void promise18_noneChangesNothing() {
    Due.refused(FollowEdgesTest::withoutAWay, NONE, "lay");
    // There the fifth belt has a drum of the first one's.
    Due.refused(Due::full, NONE, "lay");
  }

  static void promise18_asItIs() {
    Due.refused(Due::hall, 0, "lay");
  }

  static void promise18_theFirst4AtTheirDrivenEnds() {
    FortyBelts x = five();
    for (int i = 0; i < 4; i++) x.change(i, 1, 11);
    Due.answers(x, 3, "lay");
    // Belt 0 has the one by which its machine runs well; of the others the last keeps 11, so that the first have the least.
    int[] driven = {10, 1, 3, 11, 9};
    for (int i = 0; i < 5; i++) {
      Due.answers(x, 2 * i, "told", i, 3);
      Due.answers(x, driven[i], "told", i, 4);
    }
  }

  // ---- promise 19

  static void promise19_aBeltThatIsThere() {
    Due.answers(Due.hall(), 8, "cut", 2, 2);
    Due.refused(Due::hall, BAD, "cut", 3, 0);
    for (int belt : new int[] {-1, 7, LEAST, MOST}) for (int what = 0; what < 3; what++) Due.refusedAnywhere(BAD, "cut", belt, what);
  }

  static void promise19_whatIs0To2() {
    for (int what : new int[] {-1, 3, LEAST, MOST}) Due.refusedAnywhere(BAD, "cut", 0, what);
  }

  /** A belt from a drum of such a size, and a machine that wants just so many turns. */
  private static FortyBelts one(int a, int turns, int wants) {
    FortyBelts x = wide(2);
    Due.sizes(x, a, 50);
    x.belt(0, 1, 1, 9);
    x.engine(0, turns);
    x.machine(1, 1, 10001 * wants, 1);
    return x;
  }

  static void promise19_sizesAre1To99() {
    int[][] rows = {{99, 100, 9900, 1}, {99, 100, 4950, 2}, {98, 100, 100, 98}, {1, 98, 1, 98}, {1, 99, 1, 99}};
    for (int[] row : rows) {
      Due.answers(one(row[0], row[1], row[2]), row[3], "cut", 0, 0);
      Due.answers(one(row[0], row[1], row[2]), 1, "cut", 0, 1);
      Due.answers(one(row[0], row[1], row[2]), row[3] + 3, "cut", 0, 2);
    }
  }

  static void promise19_noneIsOfSize100() {
    FortyBelts x = one(1, 100, 1);
    Due.answers(x, 0, "cut", 0, 1);
    Due.answers(x, 1, "cut", 0, 0);
    Due.answers(x, 4, "cut", 0, 2);
  }

  static void promise19_noMachineYet() {
    FortyBelts x = star(1);
    Due.answers(x, 1, "cut", 0, 0);
    Due.answers(x, 0, "cut", 0, 1);
    Due.answers(x, 4, "cut", 0, 2);
  }

  /** Rows: what a new drum costs, then the size that is cut and its cost. */
  static void promise19_ofLikeOnesTheCheapestThenTheLeast() {
    String[] wants = {"7", "size", "1000 - size", "9999 - size", "size - 50", "1 + 100 * (size < 50)", "1 + 100 * (size < 99)", "2 - (size = 99)",
      "2 - (size = 1)", "500 - 9 * (size = 30) - 9 * (size = 60)"};
    int[] sizes = {1, 1, 99, 1, 1, 50, 99, 99, 1, 30};
    int[] costs = {7, 1, 901, 999, 1, 1, 1, 1, 1, 491};
    for (int i = 0; i < wants.length; i++) {
      FortyBelts x = Due.rule(star(1), "1", "1", wants[i]);
      Due.due("size by " + wants[i], x.cut(0, 0), sizes[i]);
      Due.due("cost by " + wants[i], x.cut(0, 2), costs[i]);
    }
  }

  static void promise19_mostThatRunWellAheadOfTheCheapest() {
    FortyBelts x = Due.rule(one(50, 100, 100), "1", "1", "100 + 899 * (size = 50)");
    Due.answers(x, 50, "cut", 0, 0);
    Due.answers(x, 999, "cut", 0, 2);
  }

  static void promise19_aBeltThatIsOff() {
    FortyBelts x = one(50, 100, 100);
    x.throwsOn(0, 0);
    Due.answers(x, 1, "cut", 0, 0);
    Due.answers(x, 0, "cut", 0, 1);
    Due.answers(x, 0, "told", 0, 5);
  }

  /** By a size of 1 shaft 5 would turn 10,000 times. */
  static void promise19_itIsNotCutYet() {
    for (int what = 0; what < 3; what++) {
      int w = what;
      Due.still("cut(1, " + w + ")", Due::full, x -> x.cut(1, w), new int[] {2, 10, 3}[w]);
    }
  }

  // ---- promise 20

  static void promise20_aBeltThatIsThere() {
    Due.answers(Due.hall(), 8, "off", 2);
    Due.refused(Due::hall, BAD, "off", 3);
    for (int belt : new int[] {-1, 7, LEAST, MOST}) Due.refusedAnywhere(BAD, "off", belt);
  }

  static void promise20_theFirstAndTheLastMachine() {
    FortyBelts x = star(7);
    x.machine(7, 1, 9999, 1);
    for (int i = 0; i < 8; i++) x.machine(0, 1, 9999, 1);
    x.machine(7, 1, 9999, 1);
    Due.answers(x, 513, "off", 6);
    for (int belt = 0; belt < 6; belt++) Due.answers(x, 0, "off", belt);
  }

  static void promise20_noMachineYet() {
    for (int belt = 0; belt < 7; belt++) Due.answers(star(7), 0, "off", belt);
  }

  static void promise20_whoStandsNowAndWhoIsOff() {
    FortyBelts x = star(2);
    x.machine(1, 1, 9999, 1);
    x.machine(2, 1, 9999, 1);
    x.throwsOn(0, 0);
    Due.refused(() -> {
      FortyBelts y = star(2);
      y.machine(1, 1, 9999, 1);
      y.throwsOn(0, 0);
      return y;
    }, 0, "off", 0);
    Due.answers(x, 0, "off", 0);
    Due.answers(x, 2, "off", 1);
    x.set(1, 2, 0);
    Due.answers(x, 2, "off", 1);
  }

  // ---- promise 21

  static void promise21_noneIfNoneWouldStand() {
    Due.refused(FortyBelts::new, NONE, "hangs");
    Due.refused(() -> star(7), NONE, "hangs");
    FortyBelts x = star(2);
    x.machine(0, 1, 9999, 1);
    Due.answers(x, NONE, "hangs");
    x.machine(1, 1, 9999, 1);
    Due.answers(x, 0, "hangs");
    x.set(1, 2, 0);
    Due.answers(x, NONE, "hangs");
    x.set(1, 2, 1);
    x.throwsOn(0, 0);
    Due.answers(x, NONE, "hangs");
  }

  static void promise21_ofLikeOnesTheLeast() {
    FortyBelts x = star(7);
    x.machine(7, 1, 9999, 1);
    Due.answers(x, 6, "hangs");
    x.machine(6, 1, 9999, 1);
    Due.answers(x, 5, "hangs");
    x.machine(1, 1, 9999, 1);
    Due.answers(x, 0, "hangs");
    x.machine(7, 1, 9999, 1);
    Due.answers(x, 6, "hangs");
    x.machine(1, 1, 9999, 1);
    Due.answers(x, 0, "hangs");
    x.set(2, 2, 0);
    Due.answers(x, 6, "hangs");
  }

  // ---- promise 22

  static void promise22_aMachineThatIsThere() {
    Due.answers(Due.hall(), 6, "bite", 3, 9999);
    Due.refused(Due::hall, BAD, "bite", 4, 0);
    for (int machine : new int[] {-1, 10, LEAST, MOST}) for (int more : new int[] {0, 9999}) Due.refusedAnywhere(BAD, "bite", machine, more);
  }

  static void promise22_moreIs0To9999() {
    for (int more : new int[] {-1, 10000, LEAST, MOST}) Due.refusedAnywhere(BAD, "bite", 0, more);
    for (int more : new int[] {0, 9999}) Due.still("bite(0, " + more + ")", Due::hall, x -> x.bite(0, more), 0);
  }

  /** On the engine's shaft a machine that loads what it may at most, and one that loads nothing, of whom each minds. */
  private static FortyBelts biting(int power) {
    FortyBelts x = Due.rule(wide(1), "1", "1", "1");
    x.machine(0, 999, 9999, 1);
    x.machine(0, 0, 9999, 1);
    x.engine(1, power);
    return x;
  }

  static void promise22_noneIfItDoesntStall() {
    Due.answers(biting(9999), 0, "bite", 0, 9000);
    Due.answers(biting(9999), 2, "bite", 0, 9001);
    Due.answers(biting(999), 0, "bite", 0, 0);
    Due.answers(biting(998), 2, "bite", 0, 0);
    Due.answers(biting(1000), 0, "bite", 0, 1);
    Due.answers(biting(1000), 2, "bite", 0, 2);
    Due.answers(biting(1000), 0, "bite", 1, 1);
    Due.answers(biting(1000), 1, "bite", 1, 2);
  }

  static void promise22_notItself() {
    FortyBelts x = Due.rule(wide(1), "1", "1", "1");
    for (int i = 0; i < 10; i++) x.machine(0, 999, 9999, 1);
    for (int i = 0; i < 10; i++) Due.answers(x, 1023 - (1 << i), "bite", i, 0);
  }

  static void promise22_onesThatAreOnAndTurn() {
    FortyBelts x = biting(1);
    x.shaft(0, 1);
    x.machine(1, 5, 9999, 1);
    x.machine(0, 5, 9999, 1);
    Due.answers(x, 2 + 8, "bite", 0, 0);
    x.set(1, 2, 0);
    Due.answers(x, 8, "bite", 0, 0);
    // One that is off or that stands may bite: it loads nothing more.
    Due.answers(x, 1 + 8, "bite", 1, 9999);
    Due.answers(x, 1 + 8, "bite", 2, 9999);
    x.engine(1, 1004);
    Due.answers(x, 0, "bite", 1, 9999);
    Due.answers(x, 0, "bite", 2, 9999);
  }

  /** A shaft that turns less than once turns; of 0 nothing falls. */
  static void promise22_turnsBelowOne() {
    FortyBelts x = Due.rule(one(1, 1, 0), "1", "turns = 0 and wrap = 0", "1");
    x.machine(0, 999, 9999, 1);
    x.engine(1, 1);
    Due.answers(x, 9, "runs", 2);
    Due.answers(x, 1, "bite", 1, 0);
  }

  /** At 100 turns 1000 and more are loaded, of a power of 1000. */
  static void promise22_aFallIsCut() {
    int[] more = {0, 1, 10, 11, 20, 21, 1000, 9000};
    int[] falls = {-1, 0, 0, 1, 1, 2, 50, 90};
    for (int i = 0; i < more.length; i++) {
      FortyBelts x = Due.rule(wide(1), "1", "wrap = " + Math.max(0, falls[i]), "1");
      x.machine(0, 999, 9999, 1);
      x.machine(0, 1, 9999, 1);
      Due.due("a fall of " + falls[i], x.bite(0, more[i]), falls[i] < 0 ? 0 : 2);
    }
  }

  /** 199,890,000 are loaded then, of a power of 9999: of 1,000,000 turns 999,949.98 are lost. */
  static void promise22_asMuchAsCanBe() {
    FortyBelts x = Due.rule(wide(3), "1", "wrap = 999 * 1000 + 949 and turns = 1000 * 1000", "1");
    Due.sizes(x, 99, 1);
    x.belt(3, 1, 1, 9);
    x.belt(3, 12, 1, 9);
    x.engine(0, 999);
    x.engine(1, 9999);
    for (int i = 0; i < 10; i++) x.machine(2, 999, 9999, 1);
    Due.answers(x, 1022, "bite", 0, 9999);
    Due.answers(x, 511, "bite", 9, 9999);
    Due.answers(x, 99900000, "runs", 2);
  }

  static void promise22_whatAMachineMindsBy() {
    FortyBelts x = Due.rule(wide(1), "1", "load = 7 and hours = 24 and kind = 0 and size = 0", "1");
    x.machine(0, 999, 9999, 24);
    x.machine(0, 7, 9999, 24);
    x.machine(0, 7, 9999, 0);
    Due.answers(x, 2, "bite", 0, 9999);
    x.set(2, 1, 24);
    Due.answers(x, 6, "bite", 0, 9999);
    x.set(1, 0, 8);
    Due.answers(x, 4, "bite", 0, 9999);
  }

  /** A machine minds by its LOAD, not by what it loads at its turns. */
  static void promise22_whatAMachineMindsByIsNotWhatItLoads() {
    FortyBelts x = Due.rule(wide(1), "1", "load = 900 and turns = 50", "1");
    x.engine(0, 50);
    x.machine(0, 900, 9999, 1);
    x.machine(0, 900, 9999, 1);
    Due.answers(x, 0, "bite", 0, 200);
    Due.answers(x, 2, "bite", 0, 202);
  }

  /** At 50 turns a load of 1 loads nothing; one more loads 1. */
  static void promise22_moreComesToItsLoadAheadOfTheCut() {
    FortyBelts x = Due.rule(wide(1), "1", "1", "1");
    x.engine(0, 50);
    x.engine(1, 1);
    x.machine(0, 1, 9999, 1);
    x.machine(0, 2, 9999, 1);
    Due.answers(x, 1, "runs", 2);
    Due.answers(x, 0, "bite", 0, 0);
    Due.answers(x, 2, "bite", 0, 1);
    Due.answers(x, 0, "bite", 1, 1);
    Due.answers(x, 1, "bite", 1, 2);
  }

  // ---- promise 23

  static void promise23_aBeltThatIsThere() {
    Due.answers(Due.hall(), 1, "years", 2, 1, 0);
    Due.refused(Due::hall, BAD, "years", 3, 1, 0);
    for (int belt : new int[] {-1, 7, LEAST, MOST}) Due.refusedAnywhere(BAD, "years", belt, 1, 0);
  }

  static void promise23_wornIs1To999999() {
    FortyBelts x = Due.rule(star(1), "1", "1", "1");
    for (int worn : new int[] {1, 999999}) {
      Due.answers(x, worn, "years", 0, worn, 0);
      Due.answers(x, 0, "years", 0, worn, 1);
    }
    for (int what = 0; what < 2; what++) for (int worn : new int[] {0, 1000000, -1, LEAST, MOST}) Due.refusedAnywhere(BAD, "years", 0, worn, what);
  }

  static void promise23_whatIs0Or1() {
    for (int what : new int[] {-1, 2, LEAST, MOST}) Due.refusedAnywhere(BAD, "years", 0, 1, what);
  }

  static void promise23_ofTheFirstWornTheBeltDoesntMatter() {
    for (int belt : new int[] {-1, 0, 2, 3, 7, LEAST, MOST}) {
      Due.answers(Due.hall(), 0, "years", belt, 999999, 1);
      Due.answers(new FortyBelts(), NONE, "years", belt, 999999, 1);
    }
  }

  static void promise23_daysAreRoundedUp() {
    int[][] rows = {{1, 1, 1}, {7, 1, 1}, {7, 6, 1}, {7, 7, 1}, {7, 8, 2}, {7, 14, 2}, {7, 15, 3}, {9999, 9998, 1}, {9999, 9999, 1}, {9999, 10000, 2},
      {9999, 999900, 100}, {9999, 999901, 101}, {9999, 999999, 101}, {2, 999999, 500000}, {1, 999999, 999999}};
    for (int[] row : rows) Due.due("years, worn " + row[1] + " by " + row[0], Due.rule(star(1), "" + row[0], "1", "1").years(0, row[1], 0), row[2]);
  }

  static void promise23_noneIfWearIs0() {
    for (String wear : new String[] {"0", "0 - 5", "load", "hours"}) {
      for (int worn : new int[] {1, 999999}) {
        FortyBelts x = Due.rule(star(2), wear, "1", "1");
        Due.answers(x, NONE, "years", 0, worn, 0);
        Due.answers(x, NONE, "years", 1, worn, 0);
        Due.answers(x, NONE, "years", 0, worn, 1);
      }
    }
    Due.refused(() -> star(7), NONE, "years", 6, 1, 0);
    Due.refused(() -> star(7), NONE, "years", 0, 1, 1);
    Due.refused(FortyBelts::new, NONE, "years", 0, 1, 1);
  }

  static void promise23_badIsAheadOfNone() {
    for (int what = 0; what < 3; what++) Due.refused(() -> star(7), BAD, "years", 0, 0, what);
    Due.refused(() -> star(7), BAD, "years", 0, 1, 2);
    Due.refused(() -> star(7), BAD, "years", 7, 1, 0);
  }

  /** Belt 0 wears not, belts 1, 2, 3 by 10, 20, 20. */
  static void promise23_ofLikeDaysTheLeast() {
    FortyBelts x = Due.rule(star(4), "load", "1", "1");
    int[] loads = {10, 20, 20};
    for (int i = 0; i < 3; i++) x.machine(i + 2, loads[i], 9999, 1);
    int[][] rows = {{1, 1}, {10, 1}, {11, 2}, {20, 2}, {21, 2}, {999999, 2}};
    for (int[] row : rows) Due.answers(x, row[1], "years", 0, row[0], 1);
    x.throwsOn(2, 0);
    Due.answers(x, 3, "years", 0, 11, 1);
    x.throwsOn(3, 0);
    Due.answers(x, 1, "years", 0, 11, 1);
    x.throwsOn(1, 0);
    Due.answers(x, NONE, "years", 0, 11, 1);
  }

  static void promise23_theLastBelt() {
    FortyBelts x = Due.rule(star(7), "load", "1", "1");
    x.machine(7, 1, 9999, 1);
    Due.answers(x, 6, "years", 0, 1, 1);
    Due.answers(x, 1, "years", 6, 1, 0);
  }

  static void promise23_oneThatIsOffWearsAsTheRuleSays() {
    FortyBelts x = Due.rule(Due.hall(), "7", "1", "1");
    x.throwsOn(0, 0);
    Due.answers(x, 0, "years", 2, 50, 1);
    Due.answers(x, 8, "years", 0, 50, 0);
  }

  // ---- promise 24

  static void promise24_whatIs0Or1() {
    for (int what : new int[] {-1, 2, LEAST, MOST}) Due.refusedAnywhere(BAD, "start", what);
  }

  static void promise24_withoutBelts() {
    for (int what = 0; what < 2; what++) {
      Due.refused(FortyBelts::new, 0, "start", what);
      Due.refused(() -> Due.shafts(8), 0, "start", what);
      FortyBelts x = star(7);
      for (int i = 0; i < 7; i++) x.throwsOn(i, 0);
      Due.answers(x, 0, "start", what);
    }
  }

  static void promise24_withoutBeltsItMayStall() {
    FortyBelts x = wide(1);
    x.machine(0, 5, 9999, 1);
    x.engine(1, 5);
    Due.answers(x, 0, "start", 0);
    Due.answers(x, 0, "start", 1);
    x.engine(1, 4);
    Due.answers(x, NONE, "start", 0);
    Due.answers(x, NONE, "start", 1);
    Due.answers(x, BAD, "start", 2);
  }

  static void promise24_allSevenInTheirOrder() {
    Due.answers(star(7), 123456, "start", 0);
    Due.answers(star(7), 0, "start", 1);
    FortyBelts x = wide(8);
    Due.sizes(x, 10, 10);
    for (int i = 0; i < 7; i++) x.belt(0, 10 * (6 - i) + 7 - i, 1, 9);
    Due.answers(x, 6543210, "start", 0);
    x.throwsOn(0, 0);
    Due.answers(x, 654321, "start", 0);
    x.throwsOn(6, 0);
    Due.answers(x, NONE, "start", 0);
    Due.answers(x, NONE, "start", 1);
  }

  static void promise24_eachOne() {
    for (int only = 0; only < 7; only++) {
      FortyBelts x = star(7);
      for (int i = 0; i < 7; i++) if (i != only) x.throwsOn(i, 0);
      x.machine(only + 1, 7, 9999, 1);
      Due.answers(x, only, "start", 0);
      Due.answers(x, 7, "start", 1);
    }
  }

  static void promise24_itNeverStalls() {
    FortyBelts x = star(2);
    x.machine(0, 1, 9999, 1);
    x.machine(1, 2, 9999, 1);
    x.machine(2, 4, 9999, 1);
    x.engine(1, 7);
    Due.answers(x, 1, "start", 0);
    Due.answers(x, 4, "start", 1);
    x.engine(1, 6);
    Due.answers(x, NONE, "start", 0);
    Due.answers(x, NONE, "start", 1);
    x.throwsOn(0, 0);
    Due.answers(x, 1, "start", 0);
    Due.answers(x, 4, "start", 1);
    x.set(2, 2, 0);
    x.engine(1, 1);
    Due.answers(x, 1, "start", 0);
    Due.answers(x, 0, "start", 1);
    x.set(0, 0, 2);
    Due.answers(x, NONE, "start", 0);
  }

  static void promise24_eachOnAShaftThatTurns() {
    FortyBelts x = wide(4);
    Due.sizes(x, 10, 10);
    x.belt(0, 12, 1, 9);
    Due.answers(x, NONE, "start", 0);
    x.belt(0, 3, 1, 9);
    Due.answers(x, NONE, "start", 0);
    x.belt(0, 1, 1, 9);
    Due.answers(x, 120, "start", 0);
    x.throwsOn(2, 0);
    Due.answers(x, NONE, "start", 0);
    x.throwsOn(0, 0);
    Due.answers(x, 1, "start", 0);
  }

  static void promise24_aJerkIsThatOfOneBelt() {
    FortyBelts x = wide(4);
    Due.sizes(x, 10, 10);
    for (int i = 0; i < 3; i++) x.belt(0, 11 * i + 1, 1, 9);
    int[] loads = {999, 3, 5, 4};
    for (int i = 0; i < 4; i++) x.machine(i, loads[i], 9999, 1);
    x.engine(1, 9999);
    Due.answers(x, 12, "start", 0);
    Due.answers(x, 5, "start", 1);
    x.machine(3, 2, 9999, 1);
    Due.answers(x, 6, "start", 1);
    x.throwsOn(2, 0);
    Due.answers(x, 5, "start", 1);
  }

  // ---- promise 25

  static void promise25_noShaftYet() {
    Due.refused(FortyBelts::new, 0, "save");
    Due.refused(() -> Due.shafts(8), 0, "save");
  }

  static void promise25_notShaft0() {
    Due.answers(Due.shafts(1), 0, "save");
    Due.answers(star(1), 2, "save");
  }

  static void promise25_theFirstAndTheLastShaft() {
    FortyBelts x = star(7);
    Due.answers(x, 254, "save");
    for (int i = 2; i < 7; i++) x.machine(i, 0, 9999, 0);
    Due.answers(x, 130, "save");
    x.throwsOn(6, 0);
    Due.answers(x, 2, "save");
  }

  /** Shaft 2 turns once by 99 times 99 of the engine's. */
  static void promise25_turnsBelowOne() {
    FortyBelts x = wide(3);
    Due.sizes(x, 1, 99);
    x.belt(0, 1, 1, 9);
    x.belt(0, 12, 1, 9);
    x.engine(0, 1);
    Due.answers(x, 6, "save");
    x.machine(2, 1, 9999, 1);
    Due.answers(x, 0, "save");
  }

  static void promise25_aMachineThatIsOnHangsOnIt() {
    FortyBelts x = wide(4);
    Due.sizes(x, 10, 10);
    for (int i = 0; i < 3; i++) x.belt(0, 11 * i + 1, 1, 9);
    Due.answers(x, 14, "save");
    x.machine(2, 0, 9999, 0);
    Due.answers(x, 8, "save");
    x.set(0, 2, 0);
    Due.answers(x, 14, "save");
    x.set(0, 2, 1);
    x.throwsOn(1, 0);
    // It stands, and so do those behind it.
    Due.answers(x, 2, "save");
    x.throwsOn(0, 0);
    Due.answers(x, 0, "save");
  }

  // ---- promise 26

  static void promise26_howManyBelts() {
    Due.answers(new FortyBelts(), 0, "image");
    for (int belts = 0; belts < 8; belts++) Due.answers(star(belts), belts, "image");
  }

  static void promise26_nothingThereYet() {
    FortyBelts x = new FortyBelts();
    Due.answers(x, 0, "image");
    x.shaft(0, 1);
    x.engine(0, 7);
    x.engine(1, 8);
    x.machine(0, 5, 9999, 1);
    Due.answers(x, 0, "back");
    Due.answers(x, 100, "engine", 0, 1);
    Due.answers(x, 1000, "engine", 1, 1);
    Due.answers(x, 1, "count", 0);
    Due.answers(x, 1, "count", 1);
    Due.answers(x, 5, "set", 0, 0, 5);
  }

  static void promise26_theNewOneCounts() {
    FortyBelts x = star(2);
    Due.answers(x, 2, "image");
    x.throwsOn(0, 0);
    x.engine(0, 50);
    x.shaft(0, 1);
    x.belt(0, 3, 405, 9);
    x.machine(3, 7, 9999, 1);
    Due.answers(x, 3, "image");
    x.throwsOn(0, 1);
    x.throwsOn(2, 0);
    x.change(2, 0, 9);
    x.change(2, 1, 8);
    x.set(0, 0, 8);
    x.set(0, 2, 0);
    Due.answers(x, 3, "back");
    Due.answers(x, 0, "told", 0, 5);
    Due.answers(x, 1, "told", 2, 5);
    Due.answers(x, 4, "told", 2, 3);
    Due.answers(x, 5, "told", 2, 4);
    Due.answers(x, 7, "set", 0, 0, 7);
    Due.answers(x, 1, "set", 0, 2, 1);
    Due.answers(x, 50, "engine", 0, 50);
  }

  // ---- promise 27

  static void promise27_thereIsNone() {
    Due.refused(FortyBelts::new, STATE, "back");
    Due.refused(Due::hall, STATE, "back");
    Due.refused(() -> star(7), STATE, "back");
  }

  static void promise27_atOnce() {
    Due.refused(() -> {
      FortyBelts x = Due.hall();
      x.image();
      return x;
    }, 3, "back");
    Due.refused(() -> {
      FortyBelts x = Due.full();
      x.image();
      return x;
    }, 7, "back");
  }

  static void promise27_againAndAgain() {
    FortyBelts x = star(1);
    x.image();
    for (int i = 0; i < 3; i++) {
      x.engine(0, 7 + i);
      x.throwsOn(0, 0);
      Due.answers(x, 1, "back");
      Due.answers(x, 1, "told", 0, 5);
      Due.answers(x, 100, "turns", 1, 0);
    }
  }

  /** Hours, shafts, machines, drums, belts, texts, the tape and sheets that came since stay, and belts that came since as they are. */
  static void promise27_whatCameSinceStays() {
    FortyBelts x = star(1);
    x.machine(0, 1, 9999, 5);
    x.image();
    x.set(0, 1, 24);
    x.shaft(0, 1);
    x.belt(4, 2, 203, 77);
    x.throwsOn(1, 0);
    x.change(1, 1, 9);
    x.machine(1, 9, 9999, 1);
    x.set(1, 2, 0);
    Due.feed(x, "wear 7;mind 1;want 1;").text();
    x.force(1);
    x.feed(3, 0);
    Due.sheetOf(x, 0, 0, 5, 6);
    Due.answers(x, 2, "back");
    int[] counts = {3, 2, 12, 2, 2, 3, 0};
    for (int what = 0; what < 7; what++) Due.answers(x, counts[what], "count", what);
    Due.answers(x, 24, "set", 0, 1, 24);
    Due.answers(x, 0, "told", 1, 5);
    Due.answers(x, 9, "told", 1, 4);
    Due.answers(x, 77, "taken", 1, 4);
    Due.answers(x, 9, "set", 1, 0, 9);
    Due.answers(x, 0, "set", 1, 2, 0);
    Due.answers(x, 1, "cell", 0, 1, 6);
    x.force(1);
    Due.answers(x, 7, "told", 0, 11);
  }

  static void promise27_whatCameSinceStaysOn() {
    FortyBelts x = star(1);
    x.machine(0, 1, 9999, 5);
    x.image();
    x.shaft(0, 1);
    x.belt(0, 2, 203, 77);
    x.machine(0, 9, 9999, 1);
    Due.answers(x, 2, "back");
    Due.answers(x, 1, "told", 1, 5);
    Due.answers(x, 10, "runs", 2);
    Due.answers(x, 1, "set", 1, 2, 1);
  }

  // ---- promise 28

  static void promise28_whatIs0To6() {
    for (int what : new int[] {-1, 7, LEAST, MOST}) Due.refusedAnywhere(BAD, "count", what);
  }

  static void promise28_nothingYetAndAsMuchAsCanBe() {
    int[] none = {0, 0, 0, 0, 1, 0, 0};
    int[] most = {8, 10, 12, 7, 6, 160, 3};
    for (int what = 0; what < 7; what++) {
      Due.refused(FortyBelts::new, none[what], "count", what);
      Due.refused(Due::full, most[what], "count", what);
    }
  }

  static void promise28_aRefusedCallAddsNothing() {
    FortyBelts x = new FortyBelts();
    x.shaft(100, 1);
    x.machine(0, 0, 0, 0);
    x.drum(0);
    x.belt(0, 1, 1, 1);
    x.text();
    x.feed(9, 0);
    x.force(1);
    int[] none = {0, 0, 0, 0, 1, 0, 0};
    for (int what = 0; what < 7; what++) Due.answers(x, none[what], "count", what);
  }
}
