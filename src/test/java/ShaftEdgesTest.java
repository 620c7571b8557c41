/** The edges that the words of promises 1 to 12 name, and Terms for them: shafts, machines, drums, belts. */
public final class ShaftEdgesTest {
  private static final int LEAST = Integer.MIN_VALUE, MOST = Integer.MAX_VALUE;
  private static final int BAD = -2, STATE = -3, FULL = -4, NO_SUCH = -5;
  private static final int KINDS = 6;

  public static void main(String[] args) {
    Edges.run(ShaftEdgesTest.class, 1, 12);
  }

  // ---- promise 1

  static void promise01_nothingIsThereYet() {
    FortyBelts x = new FortyBelts();
    for (int what : new int[] {0, 1, 2, 3, 5, 6}) Due.answers(x, 0, "count", what);
    Due.answers(x, 1, "count", 4);
    for (int what = 0; what < 3; what++) Due.answers(x, 0, "runs", what);
    for (int sheet = 0; sheet < 4; sheet++) Due.answers(x, -11, "cell", sheet, 0, 0);
  }

  static void promise01_whatIsAskedOfNothing() {
    Due.refused(FortyBelts::new, BAD, "machine", 0, 0, 0, 0);
    Due.refused(FortyBelts::new, BAD, "set", 0, 0, 0);
    Due.refused(FortyBelts::new, BAD, "belt", 0, 1, 1, 1);
    Due.refused(FortyBelts::new, BAD, "throwsOn", 0, 0);
    Due.refused(FortyBelts::new, BAD, "change", 0, 0, 0);
    Due.refused(FortyBelts::new, NO_SUCH, "told", 0, 0);
    Due.refused(FortyBelts::new, FortyBelts.NO, "turns", 0, 0);
  }

  static void promise01_noObjectKnowsOfAnother() {
    FortyBelts x = Due.full();
    Due.sheetOf(x, 0, 0, 5);
    String shown = Due.look(new FortyBelts());
    Due.look(x);
    Due.due("look alike: a new object", Due.look(new FortyBelts()).equals(shown) ? 1 : 0, 1);
    FortyBelts y = new FortyBelts();
    Due.answers(y, STATE, "back");
    Due.answers(y, 100, "engine", 0, 1);
    Due.answers(y, 1000, "engine", 1, 1);
    Due.answers(y, -11, "cell", 0, 0, 1);
  }

  static void promise01_aConstantEach() {
    Due.due("NONE", FortyBelts.NONE, -1);
    Due.due("BAD", FortyBelts.BAD, -2);
    Due.due("STATE", FortyBelts.STATE, -3);
    Due.due("FULL", FortyBelts.FULL, -4);
    Due.due("NO", FortyBelts.NO, -4611686018427387904L);
  }

  /** 36 calls make all that there can be; 475 more are refused or take back what they did. */
  static void promise01_itIsUsedFor512Calls() {
    FortyBelts x = new FortyBelts();
    for (int i = 0; i < 8; i++) x.shaft(i, 100);
    for (int i = 0; i < 12; i++) x.drum(10);
    for (int i = 0; i < 6; i++) x.belt(0, i + 1, 202 * i + 1, 99);
    for (int i = 0; i < 10; i++) x.machine(1, 10, 1000100, 24);
    for (int i = 0; i < 475; i += 5) {
      Due.answers(x, 1, "throwsOn", 0, 0);
      Due.answers(x, 0, "throwsOn", 0, 1);
      Due.answers(x, FULL, "drum", 1);
      Due.answers(x, -100, "text");
      Due.answers(x, 0, "choose", 1);
    }
    Due.answers(x, 2000, "judge");
  }

  // ---- promise 2

  static void promise02_aPlaceIs0To99() {
    FortyBelts x = new FortyBelts();
    Due.answers(x, 0, "shaft", 0, 1);
    Due.answers(x, 1, "shaft", 99, 1);
    Due.sizes(x, 2, 2);
    x.belt(0, 1, 1, 1);
    Due.answers(x, 2 * 99 + 6, "told", 0, 8);
  }

  static void promise02_aPlaceBeyondIsBad() {
    for (int place : new int[] {-1, 100, LEAST, MOST}) Due.refusedAnywhere(BAD, "shaft", place, 1);
  }

  static void promise02_aMostPullIs1To9999() {
    Due.answers(new FortyBelts(), 0, "shaft", 0, 1);
    Due.answers(new FortyBelts(), 0, "shaft", 0, 9999);
    for (int bends : new int[] {0, 10000, -1, LEAST, MOST}) Due.refusedAnywhere(BAD, "shaft", 0, bends);
  }

  static void promise02_eightAtMost() {
    FortyBelts x = new FortyBelts();
    for (int i = 0; i < 8; i++) Due.answers(x, i, "shaft", i, 1);
    Due.answers(x, FULL, "shaft", 8, 1);
    Due.answers(x, 8, "count", 0);
    Due.refused(() -> Due.shafts(8), FULL, "shaft", 0, 1);
    Due.refused(Due::full, FULL, "shaft", 99, 9999);
  }

  static void promise02_theFirstIsTheEngines() {
    FortyBelts x = Due.shafts(2);
    Due.answers(x, 100, "turns", 0, 0);
    Due.answers(x, 1, "turns", 0, 2);
    Due.answers(x, 0, "turns", 1, 0);
    Due.answers(x, 0, "turns", 1, 2);
  }

  // ---- promise 3

  static void promise03_turnsAre1To999And100AtFirst() {
    FortyBelts x = Due.shafts(1);
    Due.answers(x, 100, "engine", 0, 1);
    Due.answers(x, 1, "turns", 0, 0);
    Due.answers(x, 1, "engine", 0, 999);
    Due.answers(x, 999, "turns", 0, 0);
    Due.answers(x, 999, "engine", 0, 999);
    for (int v : new int[] {0, 1000, -1, LEAST, MOST}) Due.refusedAnywhere(BAD, "engine", 0, v);
  }

  static void promise03_powerIs1To9999And1000AtFirst() {
    FortyBelts x = new FortyBelts();
    Due.answers(x, 1000, "engine", 1, 1);
    Due.answers(x, 1, "engine", 1, 9999);
    Due.answers(x, 9999, "engine", 1, 9999);
    for (int v : new int[] {0, 10000, -1, LEAST, MOST}) Due.refusedAnywhere(BAD, "engine", 1, v);
  }

  static void promise03_oneOfBothLeavesTheOther() {
    FortyBelts x = new FortyBelts();
    x.engine(0, 7);
    Due.answers(x, 1000, "engine", 1, 8);
    Due.answers(x, 7, "engine", 0, 9);
  }

  static void promise03_whatIs0Or1() {
    for (int what : new int[] {-1, 2, LEAST, MOST}) Due.refusedAnywhere(BAD, "engine", what, 1);
  }

  // ---- promise 4

  static void promise04_itsShaftIsOneOfThose() {
    FortyBelts x = Due.shafts(3);
    Due.answers(x, 0, "machine", 0, 0, 0, 0);
    Due.answers(x, 1, "machine", 2, 0, 0, 0);
    Due.refused(Due::hall, BAD, "machine", 4, 0, 0, 0);
    for (int shaft : new int[] {-1, 8, LEAST, MOST}) Due.refusedAnywhere(BAD, "machine", shaft, 0, 0, 0);
  }

  static void promise04_aLoadIs0To999() {
    FortyBelts x = Due.shafts(1);
    Due.answers(x, 0, "machine", 0, 0, 9999, 0);
    Due.answers(x, 0, "runs", 2);
    Due.answers(x, 1, "machine", 0, 999, 9999, 0);
    Due.answers(x, 999, "runs", 2);
    for (int load : new int[] {-1, 1000, LEAST, MOST}) Due.refusedAnywhere(BAD, "machine", 0, load, 0, 0);
  }

  /** On shaft 1, which turns 99 times by each of the engine's, and on shaft 2, which stands. */
  static void promise04_turnsThatItWantsAre0To9999() {
    FortyBelts x = Due.shafts(3);
    Due.sizes(x, 99, 1);
    x.belt(0, 1, 1, 1);
    x.engine(0, 101);
    Due.answers(x, 0, "machine", 2, 0, 0, 0);
    Due.answers(x, 1, "machine", 2, 0, 9999, 0);
    Due.answers(x, 2, "machine", 1, 0, 9999, 0);
    Due.answers(x, 3, "machine", 1, 0, 99999999, 0);
    Due.answers(x, 15, "runs", 0);
    x.engine(0, 102);
    Due.answers(x, 3, "runs", 0);
    x.engine(0, 100);
    Due.answers(x, 7, "runs", 0);
  }

  static void promise04_turnsThatItWantsBeyondAreBad() {
    for (int wants : new int[] {-1, 100000000, 100009999, 100010000, -10000, LEAST, MOST}) Due.refusedAnywhere(BAD, "machine", 0, 0, wants, 0);
  }

  static void promise04_toIsNotBelowFrom() {
    FortyBelts x = Due.shafts(1);
    Due.answers(x, 0, "machine", 0, 0, 10001, 0);
    Due.answers(x, 1, "machine", 0, 0, 10002, 0);
    Due.answers(x, 2, "machine", 0, 0, 99989999, 0);
    for (int wants : new int[] {10000, 20001, 99999998, 99990000}) Due.refusedAnywhere(BAD, "machine", 0, 0, wants, 0);
  }

  static void promise04_hoursAre0To24() {
    FortyBelts x = Due.shafts(1);
    Due.answers(x, 0, "machine", 0, 0, 0, 0);
    Due.answers(x, 1, "machine", 0, 0, 0, 24);
    Due.answers(x, 0, "set", 0, 1, 1);
    Due.answers(x, 24, "set", 1, 1, 1);
    for (int hours : new int[] {-1, 25, LEAST, MOST}) Due.refusedAnywhere(BAD, "machine", 0, 0, 0, hours);
  }

  static void promise04_itIsOnAtFirst() {
    FortyBelts x = Due.shafts(1);
    x.machine(0, 5, 0, 0);
    Due.answers(x, 5, "runs", 2);
    Due.answers(x, 1, "set", 0, 2, 1);
  }

  static void promise04_tenAtMost() {
    FortyBelts x = Due.shafts(1);
    for (int i = 0; i < 10; i++) Due.answers(x, i, "machine", 0, 1, 9999, 0);
    Due.answers(x, FULL, "machine", 0, 1, 9999, 0);
    Due.answers(x, 10, "count", 1);
    Due.answers(x, 1023, "runs", 1);
    Due.refused(Due::full, FULL, "machine", 0, 0, 0, 0);
    Due.refused(Due::full, FULL, "machine", 7, 999, 99999999, 24);
  }

  // ---- promise 5

  static void promise05_aMachineThatIsThere() {
    Due.answers(Due.hall(), 5, "set", 0, 0, 1);
    Due.answers(Due.hall(), 10, "set", 3, 0, 1);
    Due.answers(Due.full(), 12, "set", 9, 0, 1);
    Due.refused(Due::hall, BAD, "set", 4, 0, 1);
    for (int machine : new int[] {-1, 10, LEAST, MOST}) for (int what = 0; what < 3; what++) Due.refusedAnywhere(BAD, "set", machine, what, 1);
  }

  static void promise05_aLoadIs0To999() {
    FortyBelts x = Due.hall();
    Due.answers(x, 50, "set", 1, 0, 0);
    Due.answers(x, 0 + 30 + 40, "runs", 2);
    Due.answers(x, 0, "set", 1, 0, 999);
    Due.answers(x, 1998 + 30 + 40, "runs", 2);
    Due.answers(x, 999, "set", 1, 0, 999);
    for (int v : new int[] {-1, 1000, LEAST, MOST}) Due.refusedAnywhere(BAD, "set", 0, 0, v);
  }

  static void promise05_hoursAre0To24() {
    FortyBelts x = Due.hall();
    Due.answers(x, 8, "set", 1, 1, 0);
    Due.answers(x, 0, "set", 1, 1, 24);
    Due.answers(x, 24, "set", 1, 1, 24);
    for (int v : new int[] {-1, 25, LEAST, MOST}) Due.refusedAnywhere(BAD, "set", 0, 1, v);
  }

  static void promise05_onOrOffIs1Or0() {
    FortyBelts x = Due.hall();
    Due.answers(x, 1, "set", 1, 2, 0);
    Due.answers(x, 0, "set", 1, 2, 0);
    Due.answers(x, 0, "set", 1, 2, 1);
    Due.answers(x, 1, "set", 1, 2, 1);
    for (int v : new int[] {-1, 2, LEAST, MOST}) Due.refusedAnywhere(BAD, "set", 0, 2, v);
  }

  static void promise05_whatIs0To2() {
    for (int what : new int[] {-1, 3, LEAST, MOST}) Due.refusedAnywhere(BAD, "set", 0, what, 1);
  }

  // ---- promise 6

  static void promise06_aSizeIs1To99() {
    FortyBelts x = Due.shafts(2);
    Due.answers(x, 0, "drum", 1);
    Due.answers(x, 1, "drum", 99);
    x.belt(0, 1, 1, 1);
    Due.answers(x, 100, "turns", 1, 0);
    Due.answers(x, 99, "turns", 1, 1);
    for (int size : new int[] {0, 100, -1, LEAST, MOST}) Due.refusedAnywhere(BAD, "drum", size);
  }

  static void promise06_twelveAtMost() {
    FortyBelts x = new FortyBelts();
    for (int i = 0; i < 12; i++) Due.answers(x, i, "drum", 50);
    Due.answers(x, FULL, "drum", 50);
    Due.answers(x, 12, "count", 2);
    Due.refused(Due::full, FULL, "drum", 1);
    Due.refused(Due::full, FULL, "drum", 99);
  }

  // ---- promise 7

  /** Four shafts and four drums, without belts. */
  private static FortyBelts bare() {
    FortyBelts x = Due.shafts(4);
    Due.sizes(x, 10, 20, 30, 40);
    return x;
  }

  /** The bare one with 1 => 2 => 3, the second of them off. */
  private static FortyBelts linked() {
    FortyBelts x = bare();
    x.belt(0, 12, 1, 9);
    x.belt(0, 23, 203, 9);
    x.throwsOn(1, 0);
    return x;
  }

  static void promise07_aKindIs0To5() {
    for (int kind = 0; kind < KINDS; kind++) {
      FortyBelts x = bare();
      Due.answers(x, 0, "belt", kind, 1, 1, 9);
      Due.answers(x, kind, "told", 0, 0);
    }
    for (int kind : new int[] {-1, 6, LEAST, MOST}) {
      Due.refusedAnywhere(BAD, "belt", kind, 1, 1, 9);
      Due.refused(ShaftEdgesTest::bare, BAD, "belt", kind, 1, 1, 9);
    }
  }

  static void promise07_itsShaftsAreOnesOfThose() {
    Due.answers(bare(), 0, "belt", 0, 3, 1, 9);
    Due.answers(bare(), 0, "belt", 0, 31, 1, 9);
    for (int shafts : new int[] {4, 14, 41, 43, 44, 9, 90, 100, 101, 103, -1, -9, -10, -31, LEAST, MOST}) {
      Due.refused(ShaftEdgesTest::bare, BAD, "belt", 0, shafts, 1, 9);
    }
    Due.refused(() -> Due.shafts(1), BAD, "belt", 0, 1, 1, 9);
  }

  static void promise07_itsShaftsAreUnlike() {
    for (int shaft = 0; shaft < 4; shaft++) Due.refused(ShaftEdgesTest::bare, BAD, "belt", 0, 11 * shaft, 1, 9);
  }

  static void promise07_theOneDrivenIsNotShaft0() {
    for (int driver = 1; driver < 4; driver++) Due.refused(ShaftEdgesTest::bare, BAD, "belt", 0, 10 * driver, 1, 9);
    Due.refused(ShaftEdgesTest::linked, BAD, "belt", 0, 30, 1, 9);
  }

  static void promise07_itsDrumsAreOnesOfThose() {
    FortyBelts x = bare();
    Due.answers(x, 0, "belt", 0, 1, 3, 9);
    Due.answers(x, 0, "told", 0, 3);
    Due.answers(x, 3, "told", 0, 4);
    FortyBelts y = bare();
    Due.answers(y, 0, "belt", 0, 1, 300, 9);
    Due.answers(y, 3, "told", 0, 3);
    Due.answers(y, 0, "told", 0, 4);
    for (int drums : new int[] {4, 304, 400, 403, 404, 99, -1, -100, -101, 10001, LEAST, MOST}) {
      Due.refused(ShaftEdgesTest::bare, BAD, "belt", 0, 1, drums, 9);
    }
    Due.refused(() -> Due.shafts(2), BAD, "belt", 0, 1, 1, 9);
    Due.refusedAnywhere(BAD, "belt", 0, 1, 12, 9);
  }

  static void promise07_theTwelfthDrumIsOneToo() {
    FortyBelts x = Due.shafts(3);
    Due.sizes(x, 1, 2, 3, 4, 5, 6, 7, 8, 9, 10, 11, 12);
    Due.answers(x, 0, "belt", 0, 1, 11, 9);
    Due.answers(x, 1, "belt", 0, 2, 1100, 9);
    Due.answers(x, 11, "told", 0, 4);
    Due.answers(x, 11, "told", 1, 3);
  }

  static void promise07_itsDrumsAreUnlike() {
    for (int drum = 0; drum < 4; drum++) Due.refused(ShaftEdgesTest::bare, BAD, "belt", 0, 1, 101 * drum, 9);
    FortyBelts x = Due.shafts(2);
    Due.sizes(x, 5, 5);
    Due.answers(x, 0, "belt", 0, 1, 1, 9);
  }

  static void promise07_aDrumMayBeOnTwoBelts() {
    FortyBelts x = bare();
    Due.answers(x, 0, "belt", 0, 1, 1, 9);
    Due.answers(x, 1, "belt", 0, 2, 1, 9);
    Due.answers(x, 2, "belt", 0, 3, 100, 9);
  }

  static void promise07_aGripIs1To999() {
    for (int grip : new int[] {1, 999}) {
      FortyBelts x = bare();
      Due.answers(x, 0, "belt", 0, 1, 1, grip);
      Due.answers(x, grip, "taken", 0, 0);
    }
    for (int grip : new int[] {0, 1000, -1, LEAST, MOST}) {
      Due.refused(ShaftEdgesTest::bare, BAD, "belt", 0, 1, 1, grip);
      Due.refusedAnywhere(BAD, "belt", 0, 1, 1, grip);
    }
  }

  static void promise07_itIsOnAtFirst() {
    FortyBelts x = bare();
    x.belt(0, 1, 1, 9);
    Due.answers(x, 1, "told", 0, 5);
    Due.answers(x, 50, "turns", 1, 0);
  }

  static void promise07_noOtherBeltDrivesThatShaft() {
    Due.refused(ShaftEdgesTest::linked, STATE, "belt", 0, 2, 1, 9);
    Due.refused(ShaftEdgesTest::linked, STATE, "belt", 0, 12, 1, 9);
    // That belt is off.
    Due.refused(ShaftEdgesTest::linked, STATE, "belt", 0, 3, 1, 9);
    Due.answers(linked(), 2, "belt", 0, 1, 1, 9);
  }

  static void promise07_noShaftDrivesItself() {
    Due.refused(ShaftEdgesTest::linked, STATE, "belt", 0, 21, 1, 9);
    // The belt between them is off.
    Due.refused(ShaftEdgesTest::linked, STATE, "belt", 0, 31, 1, 9);
    FortyBelts x = Due.shafts(8);
    Due.sizes(x, 1, 2);
    for (int i = 2; i < 8; i++) x.belt(0, 10 * (i - 1) + i, 1, 9);
    Due.answers(x, STATE, "belt", 0, 71, 1, 9);
    Due.answers(x, 6, "belt", 0, 1, 1, 9);
  }

  static void promise07_aShaftMayDriveMany() {
    FortyBelts x = Due.shafts(8);
    Due.sizes(x, 1, 2);
    for (int i = 1; i < 8; i++) Due.answers(x, i - 1, "belt", 0, i, 1, 9);
  }

  static void promise07_badIsAheadOfState() {
    Due.refused(ShaftEdgesTest::linked, BAD, "belt", 6, 2, 1, 9);
    Due.refused(ShaftEdgesTest::linked, BAD, "belt", 0, 2, 4, 9);
    Due.refused(ShaftEdgesTest::linked, BAD, "belt", 0, 2, 0, 9);
    Due.refused(ShaftEdgesTest::linked, BAD, "belt", 0, 21, 1, 0);
    Due.refused(ShaftEdgesTest::linked, BAD, "belt", 0, 22, 1, 9);
  }

  /** Seven belts drive all shafts but the engine's, so that each other one is refused by its shaft. */
  static void promise07_sevenAtMost() {
    Due.answers(Due.full(), 7, "count", 3);
    for (int driven = 1; driven < 8; driven++) Due.refused(Due::full, STATE, "belt", 0, driven, 1, 9);
    Due.answers(Due.full(), 1, "told", 6, 5);
  }

  // ---- promise 8

  static void promise08_aBeltThatIsThere() {
    Due.answers(Due.hall(), 1, "throwsOn", 2, 0);
    Due.answers(Due.full(), 1, "throwsOn", 6, 0);
    Due.refused(Due::hall, BAD, "throwsOn", 3, 0);
    for (int belt : new int[] {-1, 7, LEAST, MOST}) for (int is = 0; is < 2; is++) Due.refusedAnywhere(BAD, "throwsOn", belt, is);
  }

  static void promise08_onOrOffIs1Or0() {
    FortyBelts x = Due.hall();
    Due.answers(x, 1, "throwsOn", 0, 1);
    Due.answers(x, 1, "throwsOn", 0, 0);
    Due.answers(x, 0, "throwsOn", 0, 0);
    Due.answers(x, 0, "throwsOn", 0, 1);
    for (int is : new int[] {-1, 2, LEAST, MOST}) Due.refusedAnywhere(BAD, "throwsOn", 0, is);
  }

  // ---- promise 9

  static void promise09_aBeltThatIsThere() {
    Due.answers(Due.hall(), 5, "change", 2, 1, 0);
    Due.answers(Due.full(), 11, "change", 6, 1, 0);
    Due.refused(Due::hall, BAD, "change", 3, 1, 0);
    for (int belt : new int[] {-1, 7, LEAST, MOST}) for (int end = 0; end < 2; end++) Due.refusedAnywhere(BAD, "change", belt, end, 0);
  }

  static void promise09_anEndIs0Or1() {
    FortyBelts x = Due.hall();
    Due.answers(x, 0, "change", 0, 0, 6);
    Due.answers(x, 6, "told", 0, 3);
    Due.answers(x, 1, "told", 0, 4);
    Due.answers(x, 1, "change", 0, 1, 5);
    Due.answers(x, 6, "told", 0, 3);
    Due.answers(x, 5, "told", 0, 4);
    for (int end : new int[] {-1, 2, LEAST, MOST}) Due.refusedAnywhere(BAD, "change", 0, end, 3);
  }

  static void promise09_aDrumThatIsThere() {
    Due.answers(Due.hall(), 2, "change", 1, 0, 0);
    Due.answers(Due.hall(), 2, "change", 1, 0, 6);
    Due.answers(Due.full(), 0, "change", 0, 0, 11);
    for (int end = 0; end < 2; end++) {
      Due.refused(Due::hall, BAD, "change", 0, end, 7);
      for (int drum : new int[] {-1, 12, LEAST, MOST}) Due.refusedAnywhere(BAD, "change", 0, end, drum);
    }
  }

  static void promise09_theOneOnItsOtherEndIsBad() {
    Due.refused(Due::hall, BAD, "change", 1, 0, 3);
    Due.refused(Due::hall, BAD, "change", 1, 1, 2);
    FortyBelts x = Due.hall();
    Due.answers(x, 1, "change", 0, 1, 6);
    Due.answers(x, BAD, "change", 0, 0, 6);
    Due.answers(x, 0, "change", 0, 0, 1);
  }

  static void promise09_theOneThatIsThereComesAgain() {
    Due.still("change(1, 0, 2)", Due::hall, x -> x.change(1, 0, 2), 2);
    Due.still("change(1, 1, 3)", Due::hall, x -> x.change(1, 1, 3), 3);
  }

  static void promise09_oneOfAnotherBeltMayCome() {
    FortyBelts x = Due.hall();
    Due.answers(x, 1, "change", 0, 1, 2);
    Due.answers(x, 2, "told", 1, 3);
    Due.answers(x, 2, "told", 0, 4);
  }

  // ---- promise 10

  static void promise10_aBeltThatIsThere() {
    Due.answers(Due.hall(), 3, "told", 2, 0);
    Due.answers(Due.full(), 0, "told", 6, 0);
    Due.refused(Due::hall, NO_SUCH, "told", 3, 0);
    for (int belt : new int[] {-1, 7, LEAST, MOST}) for (int what : new int[] {0, 11, 12}) Due.refusedAnywhere(NO_SUCH, "told", belt, what);
  }

  static void promise10_whatIs0To11() {
    Due.answers(Due.hall(), 1, "told", 1, 0);
    Due.answers(Due.hall(), 300, "told", 1, 11);
    for (int what : new int[] {-1, 12, LEAST, MOST}) Due.refusedAnywhere(NO_SUCH, "told", 0, what);
  }

  /** A belt of a kind from a drum of one size to one of another, at two places. */
  private static FortyBelts pair(int kind, int a, int b, int place, int other) {
    FortyBelts x = new FortyBelts();
    x.shaft(place, 9999);
    x.shaft(other, 9999);
    Due.sizes(x, a, b);
    x.belt(kind, 1, 1, 1);
    return x;
  }

  /** Rows: a, b, then WRAP by kind. */
  static void promise10_aWrapIs10AtLeast() {
    int[][] rows = {
      {50, 50, 50, 70, 65, 50, 60, 35}, {50, 51, 49, 69, 64, 49, 59, 34}, {51, 50, 49, 69, 64, 49, 59, 34},
      {50, 89, 11, 31, 26, 11, 21, 15}, {89, 50, 11, 31, 26, 11, 21, 15}, {50, 90, 10, 30, 25, 10, 20, 15}, {90, 50, 10, 30, 25, 10, 20, 15},
      {50, 91, 10, 30, 25, 10, 20, 15}, {91, 50, 10, 30, 25, 10, 20, 15}, {1, 99, 10, 30, 25, 10, 20, 15}, {99, 1, 10, 30, 25, 10, 20, 15},
    };
    for (int[] row : rows) {
      for (int kind = 0; kind < KINDS; kind++) {
        Due.due("wrap of kind " + kind + ", " + row[0] + " to " + row[1], pair(kind, row[0], row[1], 0, 0).told(0, 7), row[2 + kind]);
      }
    }
  }

  /** Rows: a, b, places, then LONG of a BELT, of a CROSSED one, of an IDLER; a CONE, a LOOSE one, a TWIST are as these. */
  static void promise10_aLongIsCut() {
    int[][] rows = {
      {1, 1, 7, 7, 3, 5, 13}, {1, 2, 7, 7, 4, 7, 14}, {2, 1, 7, 7, 4, 7, 14}, {2, 2, 7, 7, 6, 10, 16}, {99, 98, 0, 0, 295, 492, 305},
      {99, 99, 0, 99, 495, 693, 505}, {99, 99, 99, 0, 495, 693, 505}, {1, 2, 3, 4, 6, 9, 16}, {1, 2, 4, 3, 6, 9, 16},
    };
    int[] column = {4, 5, 6, 4, 4, 5};
    for (int[] row : rows) {
      for (int kind = 0; kind < KINDS; kind++) {
        String call = "long of kind " + kind + ", " + row[0] + " to " + row[1] + " at " + row[2] + ", " + row[3];
        Due.due(call, pair(kind, row[0], row[1], row[2], row[3]).told(0, 8), row[column[kind]]);
      }
    }
  }

  static void promise10_aPullIs0IfTheBeltIsOff() {
    FortyBelts x = Due.hall();
    x.throwsOn(0, 0);
    Due.answers(x, 0, "told", 0, 9);
    Due.answers(x, 0, "told", 0, 10);
    // Those behind it stand.
    Due.answers(x, 0, "told", 1, 9);
    x.throwsOn(0, 1);
    x.throwsOn(1, 0);
    Due.answers(x, 0, "told", 1, 9);
    Due.answers(x, 140, "told", 0, 9);
  }

  static void promise10_noneLoadsWhatItPulls() {
    FortyBelts x = Due.shafts(2);
    Due.sizes(x, 1, 2);
    x.belt(0, 1, 1, 1);
    Due.answers(x, 0, "told", 0, 9);
    x.machine(0, 999, 9999, 24);
    Due.answers(x, 0, "told", 0, 9);
    x.machine(1, 100, 9999, 24);
    Due.answers(x, 50, "told", 0, 9);
    x.set(1, 2, 0);
    Due.answers(x, 0, "told", 0, 9);
    Due.answers(x, 0, "told", 0, 11);
  }

  /** A belt of such a grip between drums of such sizes holds so much; its driven shaft turns 100 times. */
  private static void slipsAbove(int grip, int a, int b, int held) {
    FortyBelts x = new FortyBelts();
    x.shaft(0, 9999);
    x.shaft(0, 9999);
    Due.sizes(x, a, b);
    x.belt(0, 1, 1, grip);
    x.engine(0, 100 * b / a);
    x.machine(1, Math.min(held, 990), 9999, 0);
    x.machine(1, Math.max(0, held - 990), 9999, 0);
    String of = "grip " + grip + ", " + a + " to " + b + ": ";
    Due.due(of + "pull", x.told(0, 9), held);
    Due.due(of + "slips, just what it holds", x.told(0, 10), 0);
    Due.due(of + "judge, just what it holds", x.judge(), -1);
    x.machine(1, 1, 9999, 0);
    Due.due(of + "pull of one more", x.told(0, 9), held + 1);
    Due.due(of + "slips, one more", x.told(0, 10), 1);
    Due.due(of + "judge, one more", x.judge(), 2000);
  }

  /** The last two hold 2.94 and 0.98, cut. */
  static void promise10_aBeltSlipsAboveWhatItHolds() {
    slipsAbove(1, 10, 10, 1);
    slipsAbove(999, 10, 10, 999);
    slipsAbove(50, 10, 20, 40);
    slipsAbove(3, 1, 2, 2);
    slipsAbove(1, 1, 2, 0);
  }

  static void promise10_whatWearSaysIs0To9999() {
    String[] says = {"0", "0 - 1", "- 9999 * 9999", "1", "9998", "9999", "9999 + 1", "9999 * 9999"};
    int[] want = {0, 0, 0, 1, 9998, 9999, 9999, 9999};
    for (int i = 0; i < says.length; i++) Due.due("wear " + says[i], Due.rule(Due.hall(), says[i], "1", "1").told(0, 11), want[i]);
  }

  static void promise10_wearOfOneThatIsOff() {
    FortyBelts x = Due.rule(Due.hall(), "1000 + hours + load + (turns = 200)", "1", "1");
    Due.answers(x, 1000 + 10 + 30 + 1, "told", 1, 11);
    x.throwsOn(1, 0);
    Due.answers(x, 1000 + 1, "told", 1, 11);
  }

  static void promise10_oneThatIsOffKeepsAllButItsPull() {
    FortyBelts x = Due.hall();
    x.throwsOn(1, 0);
    int[] want = {1, 1, 2, 2, 3, 0, -1, 55, 152, 0, 0, 0};
    for (int what = 0; what < want.length; what++) Due.answers(x, want[what], "told", 1, what);
  }

  /** Belt 1 is on, though the shaft that drives it stands. */
  static void promise10_hoursOfOneThatIsOnThoughItStands() {
    FortyBelts x = Due.rule(Due.hall(), "1000 * hours + load + turns", "1", "1");
    x.throwsOn(0, 0);
    Due.answers(x, 9999, "told", 1, 11);
    x.set(2, 1, 3);
    Due.answers(x, 3000, "told", 1, 11);
    Due.answers(x, 6000, "told", 2, 11);
    Due.answers(x, 100, "told", 0, 11);
  }

  static void promise10_aTwistIsTurnedTwice() {
    int[] ways = {1, -1, 1, 1, 1, 1};
    for (int kind = 0; kind < KINDS; kind++) {
      FortyBelts x = pair(kind, 1, 2, 0, 0);
      Due.answers(x, ways[kind], "told", 0, 6);
      x.throwsOn(0, 0);
      Due.answers(x, ways[kind], "told", 0, 6);
    }
  }

  // ---- promise 11

  static void promise11_aShaftThatIsThere() {
    Due.answers(Due.hall(), 400, "turns", 3, 0);
    Due.answers(Due.full(), 1, "turns", 7, 1);
    Due.refused(Due::hall, FortyBelts.NO, "turns", 4, 0);
    for (int shaft : new int[] {-1, 8, LEAST, MOST}) for (int what : new int[] {0, 4, 5}) Due.refusedAnywhere(FortyBelts.NO, "turns", shaft, what);
  }

  static void promise11_whatIs0To4() {
    Due.answers(Due.hall(), 200, "turns", 1, 0);
    Due.answers(Due.hall(), 1, "turns", 1, 4);
    for (int what : new int[] {-1, 5, LEAST, MOST}) Due.refusedAnywhere(FortyBelts.NO, "turns", 0, what);
  }

  static void promise11_turnsAre0By1IfNoneDrivesIt() {
    FortyBelts x = Due.hall();
    x.throwsOn(0, 0);
    for (int shaft = 1; shaft < 4; shaft++) {
      Due.answers(x, 0, "turns", shaft, 0);
      Due.answers(x, 1, "turns", shaft, 1);
      Due.answers(x, 0, "turns", shaft, 2);
    }
    Due.answers(x, 100, "turns", 0, 0);
    Due.answers(x, 1, "turns", 0, 2);
    FortyBelts y = Due.hall();
    y.shaft(1, 1);
    Due.answers(y, 0, "turns", 4, 0);
    Due.answers(y, 1, "turns", 4, 1);
    Due.answers(y, 0, "turns", 4, 2);
    Due.answers(y, 0, "turns", 4, 3);
    Due.answers(y, 0, "turns", 4, 4);
  }

  /** Rows: what the engine turns, a, b, then the fraction. */
  static void promise11_turnsAreInLowestTerms() {
    int[][] rows = {{1, 1, 99, 1, 99}, {99, 1, 99, 1, 1}, {98, 1, 99, 98, 99}, {1, 99, 1, 99, 1}, {999, 99, 1, 98901, 1}, {100, 15, 30, 50, 1}, {7, 5, 30, 7, 6},
      {999, 98, 99, 10878, 11}, {1, 99, 99, 1, 1}};
    for (int[] row : rows) {
      FortyBelts x = pair(0, row[1], row[2], 0, 0);
      x.engine(0, row[0]);
      Due.answers(x, row[3], "turns", 1, 0);
      Due.answers(x, row[4], "turns", 1, 1);
    }
  }

  static void promise11_aConesDrumIs2MoreAtItsMost() {
    FortyBelts x = pair(3, 99, 1, 0, 0);
    Due.answers(x, 10100, "turns", 1, 0);
    FortyBelts y = pair(3, 1, 99, 0, 0);
    Due.answers(y, 100, "turns", 1, 0);
    Due.answers(y, 33, "turns", 1, 1);
  }

  static void promise11_wayTurnsWithEachCrossedOne() {
    FortyBelts x = Due.shafts(5);
    Due.sizes(x, 1, 2);
    int[] kinds = {1, 1, 5, 1};
    int[] ways = {-1, 1, 1, -1};
    for (int i = 0; i < 4; i++) x.belt(kinds[i], 10 * i + i + 1, 1, 9);
    for (int i = 0; i < 4; i++) Due.answers(x, ways[i], "turns", i + 1, 2);
    x.throwsOn(3, 0);
    Due.answers(x, 0, "turns", 4, 2);
  }

  /** Nine machines that load 1008 and one that loads 927 of 928: 10 times 999 and less at 101 turns, each cut. */
  static void promise11_aShaftBendsAboveWhatItMay() {
    FortyBelts x = new FortyBelts();
    x.shaft(0, 9999);
    x.shaft(0, 1);
    Due.sizes(x, 10, 10);
    x.belt(0, 1, 1, 999);
    x.engine(0, 101);
    for (int i = 0; i < 9; i++) x.machine(1, 999, 9999, 0);
    x.machine(1, 918, 9999, 0);
    Due.answers(x, 9999, "turns", 0, 3);
    Due.answers(x, 0, "turns", 0, 4);
    x.set(9, 0, 919);
    Due.answers(x, 10000, "turns", 0, 3);
    Due.answers(x, 1, "turns", 0, 4);
    for (int i = 0; i < 9; i++) x.set(i, 0, 0);
    x.set(9, 0, 0);
    Due.answers(x, 0, "turns", 1, 3);
    Due.answers(x, 0, "turns", 1, 4);
    x.set(9, 0, 1);
    Due.answers(x, 1, "turns", 1, 3);
    Due.answers(x, 0, "turns", 1, 4);
    x.set(9, 0, 2);
    Due.answers(x, 2, "turns", 1, 3);
    Due.answers(x, 1, "turns", 1, 4);
    x.throwsOn(0, 0);
    Due.answers(x, 0, "turns", 1, 3);
    Due.answers(x, 0, "turns", 1, 4);
  }

  // ---- promise 12

  static void promise12_whatIs0To2() {
    for (int what = 0; what < 3; what++) Due.answers(Due.hall(), new int[] {15, 15, 170}[what], "runs", what);
    for (int what : new int[] {-1, 3, LEAST, MOST}) Due.refusedAnywhere(BAD, "runs", what);
  }

  static void promise12_noMachineYet() {
    for (int what = 0; what < 3; what++) Due.answers(Due.shafts(8), 0, "runs", what);
  }

  static void promise12_runsWellFromTo() {
    FortyBelts x = Due.shafts(1);
    x.machine(0, 1, 500060, 1);
    int[] turns = {1, 49, 50, 51, 59, 60, 61, 999};
    int[] well = {0, 0, 1, 1, 1, 1, 0, 0};
    for (int i = 0; i < turns.length; i++) {
      x.engine(0, turns[i]);
      Due.due("runs well at " + turns[i], x.runs(0), well[i]);
    }
  }

  /** A shaft that turns by a third less or more than it may. */
  static void promise12_runsWellAsTheFraction() {
    FortyBelts x = pair(0, 1, 3, 0, 0);
    x.machine(1, 1, 500060, 1);
    int[] turns = {149, 150, 151, 179, 180, 181};
    int[] well = {0, 1, 1, 1, 1, 0};
    for (int i = 0; i < turns.length; i++) {
      x.engine(0, turns[i]);
      Due.due("runs well at " + turns[i] + " by 3", x.runs(0), well[i]);
    }
  }

  static void promise12_oneThatIsOffAlwaysRunsWell() {
    FortyBelts x = Due.shafts(2);
    x.machine(0, 1, 99999999, 1);
    x.machine(1, 1, 99999999, 1);
    Due.answers(x, 0, "runs", 0);
    x.set(1, 2, 0);
    Due.answers(x, 2, "runs", 0);
    x.set(0, 2, 0);
    Due.answers(x, 3, "runs", 0);
    Due.answers(x, 0, "runs", 2);
  }

  static void promise12_oneThatWants0RunsWellIfItStands() {
    FortyBelts x = Due.shafts(2);
    x.machine(1, 1, 0, 1);
    x.machine(1, 1, 10001, 1);
    x.machine(0, 1, 0, 1);
    Due.answers(x, 1, "runs", 0);
    Due.answers(x, 4, "runs", 1);
  }

  static void promise12_theTenthMachine() {
    FortyBelts x = Due.shafts(2);
    for (int i = 0; i < 10; i++) x.machine(i == 9 ? 0 : 1, 1, 10999, 1);
    Due.answers(x, 512, "runs", 0);
    Due.answers(x, 512, "runs", 1);
    Due.answers(x, 1, "runs", 2);
  }

  static void promise12_whatIsLoadedIsCut() {
    FortyBelts x = Due.shafts(1);
    x.machine(0, 1, 9999, 1);
    x.machine(0, 1, 9999, 1);
    int[] turns = {1, 99, 100, 199, 200, 999};
    int[] loaded = {0, 0, 2, 2, 4, 18};
    for (int i = 0; i < turns.length; i++) {
      x.engine(0, turns[i]);
      Due.due("loaded at " + turns[i], x.runs(2), loaded[i]);
    }
  }

  /** Rows: what the engine turns, sizes a of two belts and b of the second, then how often it turns, cut. */
  static void promise12_turnsThatAreCutAre1000000AtMost() {
    int[][] rows = {{518, 78, 99, 4, 999999}, {500, 40, 50, 1, 1000000}, {934, 44, 73, 3, 1000000}, {999, 99, 99, 1, 1000000}};
    for (int[] row : rows) {
      FortyBelts x = Due.shafts(3);
      Due.sizes(x, row[1], 1, row[2], row[3]);
      x.belt(0, 1, 1, 9);
      x.belt(0, 12, 203, 9);
      x.engine(0, row[0]);
      x.machine(2, 100, 9999, 1);
      Due.due("loaded at " + row[4], x.runs(2), row[4]);
      x.set(0, 0, 999);
      Due.due("loaded by 999 at " + row[4], x.runs(2), 999L * row[4] / 100);
    }
    FortyBelts most = pair(0, 99, 1, 0, 0);
    most.shaft(0, 1);
    most.belt(0, 12, 1, 1);
    most.engine(0, 999);
    for (int i = 0; i < 10; i++) most.machine(2, 999, 9999, 1);
    Due.answers(most, 99900000, "runs", 2);
    Due.answers(most, 99900000, "told", 1, 9);
    Due.answers(most, 2 * 99900000, "turns", 1, 3);
  }
}
