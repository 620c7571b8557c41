/** The edges that the words of promises 29 to 33 name, and Terms for them: the host. */
public final class HostEdgesTest {
  private static final int LEAST = Integer.MIN_VALUE, MOST = Integer.MAX_VALUE;
  private static final int BAD = -2, NOTHING = -11, OUTSIDE = -12, OTHER_SORT = -13, BELOW_0 = -14;
  private static final int SHEETS = 4, SORTS = 3, MOST_ITEMS = 40;

  public static void main(String[] args) {
    Edges.run(HostEdgesTest.class, 29, 33);
  }

  /** A bench with a sheet of each sort and a missing one. */
  private static FortyBelts rows() {
    FortyBelts x = Due.bench();
    Due.sheetOf(x, 0, 0, 31, 32, 33);
    Due.sheetOf(x, 1, 1, 41, 42);
    Due.sheetOf(x, 2, 2, 51, 52);
    return x;
  }

  /** The rows with bytes on the last sheet, too. */
  private static FortyBelts fourRows() {
    FortyBelts x = rows();
    Due.sheetOf(x, 3, 0, 61, 62);
    return x;
  }

  private static FortyBelts noItems() {
    FortyBelts x = Due.bench();
    for (int sheet = 0; sheet < SHEETS; sheet++) x.sheet(sheet, sheet % SORTS, 0);
    return x;
  }

  // ---- promise 29

  static void promise29_allAreMissingAtFirst() {
    for (int sheet = 0; sheet < SHEETS; sheet++) {
      Due.refused(FortyBelts::new, NOTHING, "cell", sheet, 0, 0);
      Due.refused(FortyBelts::new, NOTHING, "copy", sheet, 0, sheet, 0, 0);
      for (int sort = 0; sort < SORTS; sort++) Due.refused(FortyBelts::new, NOTHING, "drums", sheet, sort, 0, 0);
    }
  }

  static void promise29_aSheetIs0To3() {
    for (int sheet = 0; sheet < SHEETS; sheet++) {
      for (int sort = 0; sort < SORTS; sort++) {
        FortyBelts x = new FortyBelts();
        Due.answers(x, 1, "sheet", sheet, sort, 1);
        for (int other = 0; other < SHEETS; other++) Due.answers(x, other == sheet ? 1 : NOTHING, "cell", other, 0, 1);
      }
    }
    for (int sheet : new int[] {-1, 4, LEAST, MOST}) {
      for (int sort = -1; sort < SORTS; sort++) Due.refusedAnywhere(BAD, "sheet", sheet, sort, 1);
    }
  }

  static void promise29_aSortIs0To2OrMissing() {
    for (int sheet = 0; sheet < SHEETS; sheet++) {
      for (int sort : new int[] {-2, 3, LEAST, MOST}) Due.refusedAnywhere(BAD, "sheet", sheet, sort, 1);
    }
    for (int sort = 0; sort < SORTS; sort++) {
      FortyBelts x = new FortyBelts();
      x.sheet(0, sort, 1);
      for (int other = 0; other < SORTS; other++) Due.answers(x, other == sort ? 0 : OTHER_SORT, "drums", 0, other, 0, 1);
    }
  }

  static void promise29_itHas0To40() {
    for (int sheet = 0; sheet < SHEETS; sheet++) {
      for (int sort = 0; sort < SORTS; sort++) {
        for (int n : new int[] {0, 1, 39, MOST_ITEMS}) {
          FortyBelts x = new FortyBelts();
          Due.answers(x, 1, "sheet", sheet, sort, n);
          Due.answers(x, OUTSIDE, "cell", sheet, -1, 1);
          Due.answers(x, n > 0 ? 1 : OUTSIDE, "cell", sheet, 0, 1);
          Due.answers(x, n > 0 ? 1 : OUTSIDE, "cell", sheet, n - 1, 1);
          Due.answers(x, OUTSIDE, "cell", sheet, n, 1);
        }
      }
    }
  }

  static void promise29_above40IsBad() {
    for (int sheet = 0; sheet < SHEETS; sheet++) {
      for (int sort = 0; sort < SORTS; sort++) for (int n : new int[] {41, MOST}) Due.refusedAnywhere(BAD, "sheet", sheet, sort, n);
    }
    Due.refused(HostEdgesTest::rows, BAD, "sheet", 0, 0, 41);
  }

  static void promise29_below0() {
    for (int sheet = 0; sheet < SHEETS; sheet++) {
      for (int sort = 0; sort < SORTS; sort++) for (int n : new int[] {-1, LEAST}) Due.refusedAnywhere(BELOW_0, "sheet", sheet, sort, n);
    }
    Due.refused(HostEdgesTest::rows, BELOW_0, "sheet", 0, 0, -1);
  }

  static void promise29_badIsAheadOfBelow0() {
    for (int sheet : new int[] {-1, 4}) Due.refusedAnywhere(BAD, "sheet", sheet, 0, -1);
    for (int sort : new int[] {-2, 3}) Due.refusedAnywhere(BAD, "sheet", 0, sort, -1);
  }

  static void promise29_nDoesNotMatterForAMissingOne() {
    for (int sheet = 0; sheet < SHEETS; sheet++) {
      for (int n : new int[] {0, 40, 41, -1, LEAST, MOST}) {
        FortyBelts x = fourRows();
        Due.answers(x, 1, "sheet", sheet, -1, n);
        for (int other = 0; other < SHEETS; other++) Due.answers(x, other == sheet ? NOTHING : 1, "cell", other, 0, 1);
        Due.answers(x, 1, "sheet", sheet, -1, n);
        Due.answers(x, NOTHING, "cell", sheet, 0, 1);
      }
    }
  }

  static void promise29_all0() {
    for (int sort = 0; sort < SORTS; sort++) {
      FortyBelts x = Due.bench();
      Due.sheetOf(x, 0, sort, 11, 12, 13, 14);
      x.sheet(0, sort, 2);
      Due.answers(x, 1, "sheet", 0, sort, 4);
      Due.items("anew", x, 0, sort, 0, 0, 0, 0);
      Due.sheetOf(x, 0, sort, 11, 12, 13, 14);
      Due.answers(x, 1, "sheet", 0, -1, 4);
      Due.answers(x, 1, "sheet", 0, sort, 4);
      Due.items("after it was missing", x, 0, sort, 0, 0, 0, 0);
    }
  }

  // ---- promise 30

  static void promise30_aSheet() {
    for (int sheet : new int[] {-1, 4, LEAST, MOST}) for (int i : new int[] {-1, 0, 40}) Due.refusedAnywhere(BAD, "cell", sheet, i, 1);
  }

  static void promise30_nothingIsAheadOfAPlaceOutside() {
    for (int i : new int[] {0, -1, 40, LEAST, MOST}) {
      for (int sheet = 0; sheet < SHEETS; sheet++) Due.refused(FortyBelts::new, NOTHING, "cell", sheet, i, 1);
      Due.refused(HostEdgesTest::rows, NOTHING, "cell", 3, i, 1);
    }
  }

  static void promise30_aPlaceOutside() {
    int[] sizes = {3, 2, 2, 2};
    for (int sheet = 0; sheet < SHEETS; sheet++) {
      FortyBelts x = fourRows();
      Due.answers(x, 1, "cell", sheet, 0, 1);
      Due.answers(x, 1, "cell", sheet, sizes[sheet] - 1, 1);
      for (int i : new int[] {-1, sizes[sheet], sizes[sheet] + 1, 39, 40, LEAST, MOST}) {
        Due.refused(HostEdgesTest::fourRows, OUTSIDE, "cell", sheet, i, 1);
        Due.refused(HostEdgesTest::noItems, OUTSIDE, "cell", sheet, i < sizes[sheet] ? i : i - sizes[sheet], 1);
      }
      for (int i : new int[] {-1, 40, LEAST, MOST}) Due.refused(Due::full, OUTSIDE, "cell", sheet, i, 1);
      Due.answers(Due.full(), 1, "cell", sheet, 39, 1);
    }
  }

  /** What is left of numbers, rows: the number, then what bytes, shorts, ints are; 0 stands for what is no size. */
  static void promise30_theirLowest8Or16Bits() {
    int[][] rows = {
      {1, 1, 1, 1}, {99, 99, 99, 99}, {100, 0, 0, 0}, {127, 0, 0, 0}, {128, 0, 0, 0}, {255, 0, 0, 0}, {256, 0, 0, 0}, {257, 1, 0, 0}, {355, 99, 0, 0},
      {-1, 0, 0, 0}, {-128, 0, 0, 0}, {-255, 1, 0, 0}, {-157, 99, 0, 0}, {32767, 0, 0, 0}, {32768, 0, 0, 0}, {32769, 1, 0, 0}, {65535, 0, 0, 0},
      {65536, 0, 0, 0}, {65537, 1, 1, 0}, {65635, 99, 99, 0}, {-65535, 1, 1, 0}, {-65437, 99, 99, 0}, {MOST, 0, 0, 0}, {LEAST, 0, 0, 0},
      {LEAST + 99, 99, 99, 0}, {MOST - 65535 + 99, 99, 99, 0},
    };
    for (int[] row : rows) {
      for (int sort = 0; sort < SORTS; sort++) {
        FortyBelts x = Due.bench();
        Due.sheetOf(x, 3, sort, 7, row[0], 8);
        Due.items("sort " + sort + " of " + row[0], x, 3, sort, 7, row[1 + sort], 8);
      }
    }
  }

  // ---- promise 31

  static void promise31_aSheet() {
    for (int sheet : new int[] {-1, 4, LEAST, MOST}) {
      for (int other = -1; other < 5; other++) {
        Due.refused(HostEdgesTest::rows, BAD, "copy", sheet, 0, other, 0, 1);
        Due.refused(HostEdgesTest::rows, BAD, "copy", other, 0, sheet, 0, 1);
      }
      Due.refusedAnywhere(BAD, "copy", sheet, -1, 0, -1, -1);
      Due.refusedAnywhere(BAD, "copy", 0, -1, sheet, -1, -1);
    }
  }

  static void promise31_nothingIsAheadOfWhatFollows() {
    for (int sheet = 0; sheet < SHEETS; sheet++) {
      for (int n : new int[] {0, 1, -1, MOST}) {
        Due.refused(HostEdgesTest::rows, NOTHING, "copy", sheet, 0, 3, 0, n);
        Due.refused(HostEdgesTest::rows, NOTHING, "copy", 3, -1, sheet, 0, n);
        Due.refused(FortyBelts::new, NOTHING, "copy", sheet, 0, 3, 40, n);
      }
    }
  }

  static void promise31_unlikeSortsAreAheadOfAPlaceOutside() {
    for (int sheet = 0; sheet < SORTS; sheet++) {
      for (int other = 0; other < SORTS; other++) {
        for (int n : new int[] {0, 1, -1, 3, 41}) {
          if (other != sheet) Due.refused(HostEdgesTest::rows, OTHER_SORT, "copy", sheet, 0, other, 0, n);
          if (other != sheet) Due.refused(HostEdgesTest::noItems, OTHER_SORT, "copy", sheet, -1, other, 41, n);
        }
      }
    }
    Due.refused(HostEdgesTest::fourRows, OTHER_SORT, "copy", 3, 0, 1, 0, 1);
  }

  /** Three items on sheet 0, two on sheet 3: the first that are taken, and those beyond. Rows: i, j, n. */
  static void promise31_aPlaceOutside() {
    int[][] taken = {{0, 0, 0}, {0, 0, 1}, {0, 0, 2}, {1, 0, 2}, {2, 0, 1}, {2, 1, 1}, {0, 1, 1}, {3, 0, 0}, {3, 2, 0}, {0, 2, 0}};
    for (int[] row : taken) Due.answers(fourRows(), row[2], "copy", 0, row[0], 3, row[1], row[2]);
    int[][] outside = {{-1, 0, 1}, {-1, 0, 0}, {0, -1, 1}, {0, -1, 0}, {0, 0, -1}, {0, 0, 3}, {2, 0, 2}, {3, 0, 1}, {4, 0, 0}, {0, 1, 2}, {0, 2, 1}, {0, 3, 0},
      {2, 1, -1}, {LEAST, 0, 1}, {0, LEAST, 1}, {0, 0, LEAST}, {MOST, 0, 1}, {0, MOST, 1}, {0, 0, MOST}, {1, 1, MOST}, {MOST, MOST, MOST}, {MOST, 0, 0},
      {LEAST, LEAST, LEAST}, {1, 0, LEAST}, {39, 0, 1}, {40, 0, 0}, {0, 40, 0}};
    for (int[] row : outside) Due.refused(HostEdgesTest::fourRows, OUTSIDE, "copy", 0, row[0], 3, row[1], row[2]);
    for (int[] row : new int[][] {{0, 0, 1}, {1, 0, 0}, {0, 1, 0}, {0, 0, -1}}) Due.refused(HostEdgesTest::noItems, OUTSIDE, "copy", 0, row[0], 3, row[1], row[2]);
    Due.answers(noItems(), 0, "copy", 0, 0, 3, 0, 0);
  }

  static void promise31_allForty() {
    FortyBelts x = Due.bench();
    x.sheet(1, 2, MOST_ITEMS);
    x.sheet(2, 2, MOST_ITEMS);
    for (int i = 0; i < MOST_ITEMS; i++) x.cell(1, i, 50 + i);
    Due.refused(Due::full, MOST_ITEMS, "copy", 0, 0, 3, 0, MOST_ITEMS);
    Due.refused(Due::full, OUTSIDE, "copy", 0, 0, 3, 0, MOST_ITEMS + 1);
    Due.answers(x, MOST_ITEMS, "copy", 1, 0, 2, 0, MOST_ITEMS);
    Due.answers(x, 1, "copy", 1, 0, 2, MOST_ITEMS - 1, 1);
    Due.answers(x, 1, "copy", 1, MOST_ITEMS - 1, 2, 0, 1);
    Due.items("all forty", x, 2, 2, 89, 51, 52, 53);
    x.copy(2, 36, 2, 0, 4);
    Due.items("the last four", x, 2, 2, 86, 87, 88, 50);
  }

  /** Rows: i, j, n, then what a sheet's own five items 11 .. 15 become. */
  static void promise31_itsOwnAsTheyWere() {
    int[][] rows = {
      {0, 0, 5, 11, 12, 13, 14, 15}, {0, 1, 4, 11, 11, 12, 13, 14}, {1, 0, 4, 12, 13, 14, 15, 15}, {0, 2, 3, 11, 12, 11, 12, 13}, {2, 0, 3, 13, 14, 15, 14, 15},
      {0, 4, 1, 11, 12, 13, 14, 11}, {4, 0, 1, 15, 12, 13, 14, 15}, {2, 2, 0, 11, 12, 13, 14, 15}, {5, 5, 0, 11, 12, 13, 14, 15}, {1, 2, 2, 11, 12, 12, 13, 15},
    };
    for (int[] row : rows) {
      for (int sort = 0; sort < SORTS; sort++) {
        FortyBelts x = Due.bench();
        Due.sheetOf(x, 1, sort, 11, 12, 13, 14, 15);
        Due.answers(x, row[2], "copy", 1, row[0], 1, row[1], row[2]);
        Due.items("copied from " + row[0] + " to " + row[1], x, 1, sort, row[3], row[4], row[5], row[6], row[7]);
      }
    }
  }

  static void promise31_theOneTheyCameFromStays() {
    FortyBelts x = fourRows();
    Due.answers(x, 2, "copy", 0, 1, 3, 0, 2);
    x.cell(0, 1, 99);
    Due.items("the other one", x, 3, 0, 32, 33);
    Due.items("the one", x, 0, 0, 31, 99, 33);
  }

  // ---- promise 32

  static void promise32_aSheetASortAndN() {
    for (int sheet : new int[] {-1, 4, LEAST, MOST}) Due.refusedAnywhere(BAD, "drums", sheet, 0, 0, 1);
    for (int sort : new int[] {-1, 3, LEAST, MOST}) for (int sheet = 0; sheet < SHEETS; sheet++) Due.refusedAnywhere(BAD, "drums", sheet, sort, 0, 1);
    for (int n : new int[] {-1, 13, LEAST, MOST}) {
      for (int sheet = 0; sheet < SHEETS; sheet++) for (int sort = 0; sort < SORTS; sort++) Due.refusedAnywhere(BAD, "drums", sheet, sort, 0, n);
    }
  }

  static void promise32_badIsAheadOfTheOthers() {
    for (int from : new int[] {-1, 0, 41}) {
      Due.refused(HostEdgesTest::rows, BAD, "drums", 3, 3, from, 1);
      Due.refused(HostEdgesTest::rows, BAD, "drums", 3, 0, from, 13);
      Due.refused(HostEdgesTest::rows, BAD, "drums", 0, 1, from, -1);
      Due.refused(HostEdgesTest::rows, BAD, "drums", 0, 0, from, 13);
    }
  }

  static void promise32_anotherSortIsAheadOfAPlaceOutside() {
    for (int sheet = 0; sheet < SORTS; sheet++) {
      for (int sort = 0; sort < SORTS; sort++) {
        for (int n : new int[] {0, 1, 12}) {
          if (sort != sheet) Due.refused(HostEdgesTest::rows, OTHER_SORT, "drums", sheet, sort, 0, n);
          if (sort != sheet) Due.refused(HostEdgesTest::noItems, OTHER_SORT, "drums", sheet, sort, 41, n);
        }
      }
    }
  }

  static void promise32_nothingAlsoWithN0() {
    for (int sort = 0; sort < SORTS; sort++) {
      for (int n : new int[] {0, 1, 12}) {
        for (int from : new int[] {0, -1, 40}) {
          Due.refused(HostEdgesTest::rows, NOTHING, "drums", 3, sort, from, n);
          Due.refused(FortyBelts::new, NOTHING, "drums", 0, sort, from, n);
        }
      }
    }
  }

  static void promise32_nIs0To12() {
    FortyBelts x = new FortyBelts();
    x.sheet(0, 1, MOST_ITEMS);
    for (int i = 0; i < MOST_ITEMS; i++) x.cell(0, i, 10 + i);
    Due.answers(x, 0, "drums", 0, 1, 0, 0);
    Due.answers(x, 0, "count", 2);
    Due.answers(x, 12, "drums", 0, 1, 0, 12);
    Due.answers(x, 12, "count", 2);
    Due.answers(x, 0, "drums", 0, 1, 0, 12);
    Due.answers(x, BAD, "drums", 0, 1, 0, 13);
  }

  /** None is asked for, so there is no place that could be outside. */
  static void promise32_noneFromAnywhere() {
    for (int from : new int[] {0, 2, 3, -1, 40, LEAST, MOST}) Due.refused(HostEdgesTest::rows, 0, "drums", 0, 0, from, 0);
  }

  static void promise32_whatStoodAheadCame() {
    int[][] rows = {{0, 3, 3, 3}, {0, 4, OUTSIDE, 3}, {0, 12, OUTSIDE, 3}, {1, 2, 2, 2}, {1, 3, OUTSIDE, 2}, {2, 1, 1, 1}, {2, 2, OUTSIDE, 1}, {3, 1, OUTSIDE, 0},
      {4, 1, OUTSIDE, 0}, {-1, 1, OUTSIDE, 0}, {-1, 4, OUTSIDE, 0}, {LEAST, 12, OUTSIDE, 0}, {MOST, 12, OUTSIDE, 0}, {MOST - 1, 3, OUTSIDE, 0}, {40, 1, OUTSIDE, 0}};
    for (int[] row : rows) {
      FortyBelts x = rows();
      Due.answers(x, row[2], "drums", 0, 0, row[0], row[1]);
      Due.answers(x, 2 + row[3], "count", 2);
    }
    Due.refused(HostEdgesTest::noItems, OUTSIDE, "drums", 0, 0, 0, 1);
  }

  static void promise32_theLastOfForty() {
    for (int sort = 0; sort < SORTS; sort++) {
      FortyBelts x = Due.bench();
      x.sheet(0, sort, MOST_ITEMS);
      x.cell(0, 39, 77);
      Due.answers(x, 1, "drums", 0, sort, 39, 1);
      Due.answers(x, OUTSIDE, "drums", 0, sort, 39, 2);
      Due.answers(x, OUTSIDE, "drums", 0, sort, 40, 1);
      Due.answers(x, 4, "count", 2);
    }
  }

  static void promise32_othersAreLeftOut() {
    FortyBelts x = Due.bench();
    Due.sheetOf(x, 0, 2, 0, 1, 99, 100, -1, LEAST, MOST, 257, 50);
    Due.answers(x, 3, "drums", 0, 2, 0, 9);
    Due.answers(x, 5, "count", 2);
    x.change(0, 1, 2);
    Due.answers(x, 4, "told", 0, 8);
    x.change(0, 1, 3);
    Due.answers(x, 3 * 101 / 2, "told", 0, 8);
    x.change(0, 1, 4);
    Due.answers(x, 3 * 52 / 2, "told", 0, 8);
    Due.refused(() -> {
      FortyBelts y = Due.bench();
      Due.sheetOf(y, 0, 2, 0, 100, -1);
      return y;
    }, 0, "drums", 0, 2, 0, 3);
  }

  static void promise32_noDrumMoreHasRoom() {
    FortyBelts x = new FortyBelts();
    Due.sizes(x, 5, 5, 5, 5, 5, 5, 5, 5, 5, 5);
    Due.sheetOf(x, 0, 0, 7, 8, 9);
    Due.answers(x, 2, "drums", 0, 0, 0, 3);
    Due.answers(x, 12, "count", 2);
    Due.answers(x, 0, "drums", 0, 0, 0, 3);
    Due.answers(x, OUTSIDE, "drums", 0, 0, 0, 4);
    Due.answers(x, 12, "count", 2);
    Due.refused(Due::full, 0, "drums", 0, 0, 0, 12);
    Due.refused(Due::full, OUTSIDE, "drums", 0, 0, 39, 2);
  }

  // ---- promise 33

  static void promise33_kIs0To5AndAheadOfTheOthers() {
    for (int k : new int[] {-1, 6, LEAST, MOST}) {
      Due.refusedAnywhere(BAD, "taken", 0, k);
      Due.refusedAnywhere(BAD, "taken", -1, k);
      Due.refusedAnywhere(BAD, "taken", 7, k);
    }
  }

  static void promise33_noSuchBelt() {
    for (int k = 0; k < 6; k++) {
      Due.refused(FortyBelts::new, NOTHING, "taken", 0, k);
      Due.refused(Due::hall, NOTHING, "taken", 3, k);
      for (int belt : new int[] {-1, 7, LEAST, MOST}) Due.refusedAnywhere(NOTHING, "taken", belt, k);
    }
    Due.answers(Due.hall(), 999, "taken", 2, 0);
    Due.answers(Due.full(), 56, "taken", 6, 0);
  }

  /** Under each KIND stand these, itself and what is under those under it. */
  static void promise33_oneUnderThatOneAlsoByOthersBetween() {
    String[] under = {"012345", "15", "24", "3", "4", "5"};
    for (int kind = 0; kind < 6; kind++) {
      int belt = kind;
      for (int k = 0; k < 6; k++) {
        boolean isUnder = under[k].indexOf('0' + kind) >= 0;
        Due.refused(Due::full, isUnder ? 50 + belt : OTHER_SORT, "taken", belt, k);
      }
    }
  }

  static void promise33_aGripIs1To999() {
    for (int grip : new int[] {1, 999}) {
      FortyBelts x = Due.shafts(2);
      Due.sizes(x, 1, 2);
      x.belt(4, 1, 1, grip);
      for (int k : new int[] {0, 2, 4}) Due.answers(x, grip, "taken", 0, k);
    }
  }
}
