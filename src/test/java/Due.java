/** What all tests of promises share: what is due, what an object shows, and some halls to start from. */
final class Due {
  interface Maker { FortyBelts make(); }

  interface Act { long on(FortyBelts x); }

  private static int wrong = 0;
  private static int promise = 0;

  private Due() {}

  static void promise(int number) {
    promise = number;
  }

  static void due(String call, long got, long want) {
    if (got != want) {
      wrong++;
      System.out.println("promise " + promise + ": " + call + " answered " + got + ", due is " + want);
    }
  }

  /** The call answers so, and leaves the object as one on which it was not called. */
  static void still(String call, Maker maker, Act act, long want) {
    FortyBelts x = maker.make();
    due(call, act.on(x), want);
    String shown = look(x);
    String shownElse = look(maker.make());
    if (!shown.equals(shownElse)) {
      wrong++;
      System.out.println("promise " + promise + ": after " + call + " the object shows\n  " + shown + ", due is\n  " + shownElse);
    }
  }

  static void end() {
    System.out.println(wrong == 0 ? "all answers are as due" : wrong + " answers are not as due");
    if (wrong != 0) System.exit(1);
  }

  /** All that an object shows; it is used up by that. */
  static String look(FortyBelts x) {
    StringBuilder s = new StringBuilder();
    for (int what = 0; what <= 6; what++) s.append(x.count(what)).append(' ');
    lookAtWorks(x, s);
    lookAtWhatFollows(x, s);
    lookAtMachines(x, s);
    lookAtSizes(x, s);
    s.append(" | text ").append(x.text()).append(' ').append(x.count(4)).append(' ');
    s.append(x.force(x.count(4) - 1)).append(' ').append(x.told(0, 11));
    s.append(" | image ").append(x.back()).append(' ').append(x.runs(2)).append(' ').append(x.told(0, 4)).append(' ').append(x.count(6));
    s.append(" | sheets");
    for (int i = 0; i < 4; i++) for (int sort = 0; sort < 3; sort++) s.append(' ').append(x.drums(i, sort, 0, 3));
    lookAtSizes(x, s);
    return s.toString();
  }

  private static void lookAtWorks(FortyBelts x, StringBuilder s) {
    s.append(" | shafts");
    for (int i = 0; i < x.count(0); i++) for (int what = 0; what < 5; what++) s.append(' ').append(x.turns(i, what));
    s.append(" | belts");
    for (int i = 0; i < x.count(3); i++) for (int what = 0; what < 12; what++) s.append(' ').append(x.told(i, what));
    for (int i = 0; i < x.count(3); i++) s.append(' ').append(x.taken(i, 0)).append(' ').append(x.cut(i, 0));
  }

  private static void lookAtWhatFollows(FortyBelts x, StringBuilder s) {
    s.append(" | runs ").append(x.runs(0)).append(' ').append(x.runs(1)).append(' ').append(x.runs(2));
    s.append(" | follows ").append(x.judge()).append(' ').append(x.save()).append(' ').append(x.hangs());
    s.append(' ').append(x.start(0)).append(' ').append(x.start(1)).append(' ').append(x.choose(0)).append(' ').append(x.choose(1));
    s.append(" | engine ").append(x.engine(0, 50)).append(' ').append(x.engine(1, 500));
  }

  private static void lookAtMachines(FortyBelts x, StringBuilder s) {
    s.append(" | machines");
    for (int i = 0; i < x.count(1); i++) {
      s.append(' ').append(x.set(i, 0, 1)).append(' ').append(x.set(i, 1, 2)).append(' ').append(x.set(i, 2, 1)).append(' ').append(x.bite(i, 9999));
    }
  }

  /** A drum's size shows by how long a belt with it is. */
  private static void lookAtSizes(FortyBelts x, StringBuilder s) {
    s.append(" | sizes");
    if (x.count(3) > 0) for (int d = 0; d < x.count(2); d++) s.append(' ').append(x.change(0, 1, d)).append(' ').append(x.told(0, 8));
  }

  static FortyBelts feed(FortyBelts x, String text) {
    for (int i = 0; i < text.length(); i += 8) {
      int n = Math.min(8, text.length() - i);
      long bytes = 0;
      for (int k = 0; k < n; k++) bytes |= (long) text.charAt(i + k) << 8 * k;
      x.feed(n, bytes);
    }
    return x;
  }

  /** The rule becomes a text with these parts. */
  static FortyBelts rule(FortyBelts x, String wear, String mind, String want) {
    feed(x, "wear " + wear + " ; mind " + mind + " ; want " + want + " ;");
    x.force(x.text());
    return x;
  }

  static void sheetOf(FortyBelts x, int sheet, int sort, int... items) {
    x.sheet(sheet, sort, items.length);
    for (int i = 0; i < items.length; i++) x.cell(sheet, i, items[i]);
  }

  static FortyBelts shafts(int n) {
    FortyBelts x = new FortyBelts();
    for (int i = 0; i < n; i++) x.shaft(i, 100);
    return x;
  }

  static void sizes(FortyBelts x, int... sizes) {
    for (int size : sizes) x.drum(size);
  }

  /**
   * 0 =plain=> 1 =crossed=> 2, and 1 =cone=> 3; machines on 0 (off), 1, 2, 3.
   * Shaft 1 turns 100 * 20/10 = 200, shaft 2 the other way 200 * 15/30 = 100, shaft 3 200 * (8 + 2)/5 = 400;
   * the machines load 0, 100, 30, 40.
   */
  static FortyBelts hall() {
    FortyBelts x = new FortyBelts();
    x.shaft(10, 500);
    x.shaft(40, 200);
    x.shaft(60, 90);
    x.shaft(99, 9999);
    sizes(x, 20, 10, 15, 30, 8, 5, 40);
    x.belt(0, 1, 1, 60);
    x.belt(1, 12, 203, 40);
    x.belt(3, 13, 405, 999);
    x.machine(0, 5, 100, 24);
    x.machine(1, 50, 1500220, 8);
    x.machine(2, 30, 500120, 10);
    x.machine(3, 10, 4000400, 6);
    x.set(0, 2, 0);
    return x;
  }

  /** A hall with an image and what came since, bytes on the tape, and a sheet of each sort. */
  static FortyBelts busy() {
    FortyBelts x = hall();
    x.image();
    x.set(1, 0, 60);
    x.throwsOn(2, 0);
    x.change(0, 1, 6);
    feed(x, "wear 7 ;");
    sheetOf(x, 0, 0, 7, 200, 9);
    sheetOf(x, 1, 1, 300, 5, 11);
    sheetOf(x, 2, 2, 70000, 1, 99);
    return x;
  }
}
