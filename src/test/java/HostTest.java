/** Promises 29 to 33: the host. */
public final class HostTest {
  public static void main(String[] args) {
    sheetsMade();
    cellsSet();
    rowsCopied();
    rowsRefused();
    drumsOfSheets();
    drumsRefused();
    beltsTaken();
    Due.end();
  }

  private static void sheetsMade() {
    Due.promise(29);
    FortyBelts x = new FortyBelts();
    Due.due("sheet", x.sheet(0, 0, 0), 1);
    Due.due("cell of none", x.cell(0, 0, 1), -12);
    Due.due("sheet", x.sheet(3, 2, 40), 1);
    Due.due("the last cell", x.cell(3, 39, 1), 1);
    Due.due("behind the last", x.cell(3, 40, 1), -12);
    Due.due("of another sort", x.drums(3, 1, 0, 1), -13);
    Due.due("of its sort", x.drums(3, 2, 39, 1), 1);
    Due.due("sheet anew", x.sheet(3, 2, 40), 1);
    Due.due("all 0", x.drums(3, 2, 39, 1), 0);
    Due.due("missing, n too great", x.sheet(3, -1, 41), 1);
    Due.due("cell of a missing one", x.cell(3, 0, 1), -11);
    Due.due("missing, n below 0", x.sheet(0, -1, -5), 1);
    Due.due("missing again", x.sheet(0, -1, 0), 1);
    Due.due("cell of a missing one", x.cell(0, 0, 1), -11);
    int[][] bad = {{-1, 0, 1}, {4, 0, 1}, {0, 3, 1}, {0, -2, 1}, {0, 0, 41}, {4, -1, 0}, {0, 3, -1}, {1, 1, Integer.MAX_VALUE}, {4, 0, -1}};
    for (int[] b : bad) Due.still("sheet(" + b[0] + ", " + b[1] + ", " + b[2] + ")", Due::busy, y -> y.sheet(b[0], b[1], b[2]), -2);
    Due.still("sheet, below 0", Due::busy, y -> y.sheet(0, 0, -1), -14);
    Due.still("sheet, far below 0", Due::busy, y -> y.sheet(3, 2, Integer.MIN_VALUE), -14);
  }

  private static void cellsSet() {
    Due.promise(30);
    FortyBelts x = Due.bench();
    for (int sort = 0; sort < 3; sort++) Due.sheetOf(x, sort, sort, 256 + 41, 65536 + 43, -65536 + 47, -256 + 53);
    Due.items("bytes", x, 0, 0, 41, 43, 47, 53);
    x = Due.bench();
    Due.sheetOf(x, 1, 1, 256 + 41, 65536 + 43, -65536 + 47, 65536 * 3 + 53);
    Due.items("shorts", x, 1, 1, 0, 43, 47, 53);
    x = Due.bench();
    Due.sheetOf(x, 2, 2, 256 + 41, 65536 + 43, 99, Integer.MIN_VALUE + 5, 61);
    Due.items("ints", x, 2, 2, 0, 0, 99, 0, 61);
    x = Due.bench();
    Due.sheetOf(x, 0, 0, 128 + 5, 255, 1);
    Due.items("bytes have a sign", x, 0, 0, 0, 0, 1);
    int[][] outside = {{0, -1}, {0, 3}, {1, 3}, {2, Integer.MAX_VALUE}, {2, Integer.MIN_VALUE}};
    for (int[] o : outside) Due.still("cell(" + o[0] + ", " + o[1] + ")", Due::busy, y -> y.cell(o[0], o[1], 5), -12);
    for (int sheet : new int[] {-1, 4}) Due.still("cell of sheet " + sheet, Due::busy, y -> y.cell(sheet, 0, 5), -2);
    Due.still("cell of a missing one", Due::busy, y -> y.cell(3, 99, 5), -11);
  }

  private static void rowsCopied() {
    Due.promise(31);
    FortyBelts x = Due.bench();
    Due.sheetOf(x, 0, 2, 11, 12, 13, 14, 15);
    Due.due("onto itself, upwards", x.copy(0, 0, 0, 1, 4), 4);
    Due.items("upwards", x, 0, 2, 11, 11, 12, 13, 14);
    x = Due.bench();
    Due.sheetOf(x, 0, 1, 11, 12, 13, 14, 15);
    Due.due("onto itself, downwards", x.copy(0, 2, 0, 0, 3), 3);
    Due.items("downwards", x, 0, 1, 13, 14, 15, 14, 15);
    x = Due.bench();
    Due.sheetOf(x, 1, 0, 11, 12, 13);
    Due.sheetOf(x, 3, 0, 21, 22, 23, 24);
    Due.due("to another one", x.copy(1, 1, 3, 2, 2), 2);
    Due.items("the other one", x, 3, 0, 21, 22, 12, 13);
    Due.items("the one", x, 1, 0, 11, 12, 13);
    Due.due("none", x.copy(1, 0, 3, 0, 0), 0);
    Due.due("none from the end on", x.copy(1, 3, 3, 4, 0), 0);
    Due.due("all", x.copy(1, 0, 3, 1, 3), 3);
  }

  private static void rowsRefused() {
    Due.Maker two = () -> {
      FortyBelts y = Due.busy();
      Due.sheetOf(y, 3, 0, 31, 32);
      return y;
    };
    int[][] outside = {{-1, 0, 1}, {0, -1, 1}, {0, 0, -1}, {0, 0, 3}, {2, 0, 2}, {0, 2, 1}, {4, 0, 0}, {0, 3, 0}, {0, 0, Integer.MAX_VALUE},
      {Integer.MAX_VALUE, 0, 1}, {0, Integer.MAX_VALUE, 1}, {0, 0, Integer.MIN_VALUE}, {Integer.MIN_VALUE, 0, 2}, {3, 0, 1}};
    for (int[] o : outside) Due.still("copy(0, " + o[0] + ", 3, " + o[1] + ", " + o[2] + ")", two, y -> y.copy(0, o[0], 3, o[1], o[2]), -12);
    int[][] bad = {{-1, 0}, {4, 0}, {0, -1}, {0, 4}, {4, 3}, {3, 4}};
    for (int[] b : bad) Due.still("copy of " + b[0] + " to " + b[1], Due::busy, y -> y.copy(b[0], 0, b[1], 0, 1), -2);
    int[][] missing = {{0, 3}, {3, 0}, {3, 3}};
    for (int[] m : missing) Due.still("copy of " + m[0] + " to " + m[1], Due::busy, y -> y.copy(m[0], 0, m[1], 0, -1), -11);
    int[][] unlike = {{0, 1}, {1, 0}, {1, 2}, {2, 0}};
    for (int[] u : unlike) Due.still("copy of " + u[0] + " to " + u[1], Due::busy, y -> y.copy(u[0], 0, u[1], 0, -1), -13);
    Due.still("copy of unlike sorts, none", Due::busy, y -> y.copy(0, 0, 1, 0, 0), -13);
  }

  private static void drumsOfSheets() {
    Due.promise(32);
    FortyBelts x = new FortyBelts();
    Due.sheetOf(x, 0, 0, 5, 0, 99, 100, 7, -1);
    Due.due("drums", x.drums(0, 0, 0, 6), 3);
    Due.due("count", x.count(2), 3);
    Due.due("none", x.drums(0, 0, 0, 0), 0);
    Due.due("from one on", x.drums(0, 0, 2, 3), 2);
    Due.due("count", x.count(2), 5);
    Due.due("outside, and what stood ahead", x.drums(0, 0, 4, 3), -12);
    Due.due("count", x.count(2), 6);
    Due.due("outside at once", x.drums(0, 0, 6, 1), -12);
    Due.due("below at once", x.drums(0, 0, -1, 3), -12);
    Due.due("far outside", x.drums(0, 0, Integer.MAX_VALUE, 3), -12);
    Due.due("none of outside", x.drums(0, 0, 99, 0), 0);
    Due.due("count", x.count(2), 6);
    Due.sheetOf(x, 1, 1, 9, 9, 9, 9, 9, 9, 9, 9, 9, 9, 9, 9);
    Due.due("till full", x.drums(1, 1, 0, 12), 6);
    Due.due("full", x.drums(1, 1, 0, 12), 0);
    Due.due("full, and outside", x.drums(1, 1, 1, 12), -12);
    FortyBelts y = Due.bench();
    Due.sheetOf(y, 2, 2, 31, 37, 41);
    Due.items("their sizes", y, 2, 2, 31, 37, 41);
  }

  private static void drumsRefused() {
    int[][] bad = {{-1, 0, 0, 1}, {4, 0, 0, 1}, {0, -1, 0, 1}, {0, 3, 0, 1}, {0, 0, 0, -1}, {0, 0, 0, 13}, {3, 3, 0, 1}, {1, 0, 0, 13}};
    for (int[] b : bad) {
      Due.still("drums(" + b[0] + ", " + b[1] + ", " + b[2] + ", " + b[3] + ")", Due::busy, y -> y.drums(b[0], b[1], b[2], b[3]), -2);
    }
    int[][] unlike = {{0, 1}, {0, 2}, {1, 0}, {1, 2}, {2, 0}, {2, 1}};
    for (int[] u : unlike) {
      Due.still("drums of " + u[0] + " by " + u[1], Due::busy, y -> y.drums(u[0], u[1], 0, 1), -13);
      Due.still("drums of " + u[0] + " by " + u[1] + ", outside", Due::busy, y -> y.drums(u[0], u[1], 99, 0), -13);
    }
    for (int n : new int[] {0, 1, 12}) Due.still("drums of a missing one, " + n, Due::busy, y -> y.drums(3, 1, 99, n), -11);
  }

  private static void beltsTaken() {
    Due.promise(33);
    boolean[][] under = {
      {true, false, false, false, false, false}, {true, true, false, false, false, false}, {true, false, true, false, false, false},
      {true, false, false, true, false, false}, {true, false, true, false, true, false}, {true, true, false, false, false, true},
    };
    FortyBelts x = Due.shafts(7);
    Due.sizes(x, 1, 2);
    for (int kind = 0; kind < 6; kind++) x.belt(kind, kind + 1, 1, 500 + kind);
    for (int kind = 0; kind < 6; kind++) {
      for (int k = 0; k < 6; k++) Due.due("kind " + kind + " taken for " + k, x.taken(kind, k), under[kind][k] ? 500 + kind : -13);
    }
    x.throwsOn(4, 0);
    Due.due("one that is off", x.taken(4, 2), 504);
    for (int k : new int[] {-1, 6, Integer.MIN_VALUE}) {
      Due.still("taken for " + k, Due::busy, y -> y.taken(0, k), -2);
      Due.still("none taken for " + k, Due::busy, y -> y.taken(9, k), -2);
    }
    for (int belt : new int[] {-1, 3, Integer.MAX_VALUE}) Due.still("belt " + belt + " taken", Due::busy, y -> y.taken(belt, 5), -11);
    Due.still("taken for another", Due::busy, y -> y.taken(0, 5), -13);
  }
}
