import java.lang.reflect.InvocationTargetException;
import java.lang.reflect.Method;
import java.util.HashMap;
import java.util.Map;

/** What all tests of promises share: what is due, what an object shows, and some halls to start from. */
final class Due {
  interface Maker { FortyBelts make(); }

  interface Act { long on(FortyBelts x); }

  private static final Map<String, Method> CALLS = new HashMap<>();
  private static int wrong = 0;
  private static String test = "";

  static {
    for (Method m : FortyBelts.class.getDeclaredMethods()) CALLS.put(m.getName(), m);
  }

  private Due() {}

  static void promise(int number) {
    test("promise " + number);
  }

  static void test(String name) {
    test = name;
  }

  static void fault(String told) {
    wrong++;
    System.out.println(test + ": " + told);
  }

  static void due(String call, long got, long want) {
    if (got != want) fault(call + " answered " + got + ", due is " + want);
  }

  /** The call answers so, and leaves the object as one on which it was not called. */
  static void still(String call, Maker maker, Act act, long want) {
    FortyBelts x = maker.make();
    due(call, act.on(x), want);
    String shown = look(x);
    String shownElse = look(maker.make());
    if (!shown.equals(shownElse)) fault("after " + call + " the object shows\n  " + shown + ", due is\n  " + shownElse);
  }

  /** The call of that name with these numbers answers so. */
  static void answers(FortyBelts x, long want, String name, long... numbers) {
    due(told(name, numbers), call(x, name, numbers), want);
  }

  /** The call answers so and changes nothing. */
  static void refused(Maker maker, long want, String name, long... numbers) {
    still(told(name, numbers), maker, x -> call(x, name, numbers), want);
  }

  /** The call is refused so, whether nothing is there yet, some of all, or as much as can be. */
  static void refusedAnywhere(long want, String name, long... numbers) {
    refused(FortyBelts::new, want, name, numbers);
    refused(Due::busy, want, name, numbers);
    refused(Due::full, want, name, numbers);
  }

  private static String told(String name, long... numbers) {
    StringBuilder s = new StringBuilder(name).append('(');
    for (int i = 0; i < numbers.length; i++) s.append(i > 0 ? ", " : "").append(numbers[i]);
    return s.append(')').toString();
  }

  private static long call(FortyBelts x, String name, long... numbers) {
    Method m = CALLS.get(name);
    Class<?>[] types = m.getParameterTypes();
    Object[] given = new Object[numbers.length];
    for (int i = 0; i < given.length; i++) {
      if (types[i] == int.class) given[i] = Math.toIntExact(numbers[i]);
      else given[i] = numbers[i];
    }
    try {
      return ((Number) m.invoke(x, given)).longValue();
    } catch (IllegalAccessException | InvocationTargetException e) {
      throw new AssertionError(told(name, numbers), e);
    }
  }

  static void end() {
    System.out.println(wrong == 0 ? "all answers are as due" : wrong + " answers are not as due");
    if (wrong != 0) System.exit(1);
  }

  /** All that an object shows; it is used up by that. */
  static String look(FortyBelts x) {
    StringBuilder s = new StringBuilder();
    for (int what = 0; what <= 6; what++) s.append(x.count(what)).append(' ');
    lookAtWorks(x, s);
    lookAtWhatFollows(x, s);
    lookAtMachines(x, s);
    lookAtSizes(x, s);
    lookAtTexts(x, s);
    lookAtImage(x, s);
    lookAtSheets(x, s);
    return s.toString();
  }

  private static void lookAtWorks(FortyBelts x, StringBuilder s) {
    int shafts = x.count(0);
    int belts = x.count(3);
    s.append(" | shafts");
    for (int i = 0; i < shafts; i++) for (int what = 0; what < 5; what++) s.append(' ').append(x.turns(i, what));
    s.append(" | belts");
    for (int i = 0; i < belts; i++) for (int what = 0; what < 12; what++) s.append(' ').append(x.told(i, what));
    for (int i = 0; i < belts; i++) s.append(' ').append(x.taken(i, 0)).append(' ').append(x.cut(i, 0));
  }

  private static void lookAtWhatFollows(FortyBelts x, StringBuilder s) {
    s.append(" | runs ").append(x.runs(0)).append(' ').append(x.runs(1)).append(' ').append(x.runs(2));
    s.append(" | follows ").append(x.judge()).append(' ').append(x.save()).append(' ').append(x.hangs());
    s.append(' ').append(x.start(0)).append(' ').append(x.start(1)).append(' ').append(x.choose(0)).append(' ').append(x.choose(1));
    s.append(" | engine ").append(x.engine(0, 50)).append(' ').append(x.engine(1, 500));
  }

  private static void lookAtMachines(FortyBelts x, StringBuilder s) {
    int machines = x.count(1);
    s.append(" | machines");
    for (int i = 0; i < machines; i++) {
      s.append(' ').append(x.set(i, 0, 1)).append(' ').append(x.set(i, 1, 2)).append(' ').append(x.set(i, 2, 1)).append(' ').append(x.bite(i, 9999));
    }
  }

  /** A drum's size shows by how long a belt with it is. */
  private static void lookAtSizes(FortyBelts x, StringBuilder s) {
    int drums = x.count(3) > 0 ? x.count(2) : 0;
    s.append(" | sizes");
    for (int d = 0; d < drums; d++) s.append(' ').append(x.change(0, 1, d)).append(' ').append(x.told(0, 8));
  }

  /** What stands on the tape shows, with more behind it, by what it says as a text, or by its fault. */
  private static void lookAtTexts(FortyBelts x, StringBuilder s) {
    s.append(" | texts");
    feed(x, "mind 4;want 5;");
    s.append(' ').append(x.text()).append(' ').append(x.count(5));
    int texts = x.count(4);
    for (int i = 0; i < texts; i++) s.append(' ').append(x.force(i)).append(' ').append(x.told(0, 11)).append(' ').append(x.cut(0, 2));
  }

  private static void lookAtImage(FortyBelts x, StringBuilder s) {
    int belts = x.count(3);
    int machines = x.count(1);
    s.append(" | image ").append(x.back()).append(' ').append(x.count(6));
    s.append(' ').append(x.engine(0, 60)).append(' ').append(x.engine(1, 600));
    for (int i = 0; i < belts; i++) for (int what = 3; what < 6; what++) s.append(' ').append(x.told(i, what));
    for (int i = 0; i < machines; i++) s.append(' ').append(x.set(i, 0, 1)).append(' ').append(x.set(i, 2, 1));
  }

  /** The first items show, as long as drums have room, then whether there are more. */
  private static void lookAtSheets(FortyBelts x, StringBuilder s) {
    s.append(" | sheets");
    for (int i = 0; i < 4; i++) for (int sort = 0; sort < 3; sort++) s.append(' ').append(x.drums(i, sort, 0, 4));
    for (int i = 0; i < 4; i++) for (int item : new int[] {0, 1, 2, 3, 4, 39}) s.append(' ').append(x.cell(i, item, 0));
    lookAtSizes(x, s);
  }

  static FortyBelts feed(FortyBelts x, String text) {
    for (int i = 0; i < text.length(); i += 8) {
      int n = Math.min(8, text.length() - i);
      long bytes = 0;
      for (int k = 0; k < n; k++) bytes |= (long) text.charAt(i + k) << 8 * k;
      x.feed(n, bytes);
    }
    return x;
  }

  /** The rule becomes a text with these parts. */
  static FortyBelts rule(FortyBelts x, String wear, String mind, String want) {
    feed(x, "wear " + wear + " ; mind " + mind + " ; want " + want + " ;");
    x.force(x.text());
    return x;
  }

  static void sheetOf(FortyBelts x, int sheet, int sort, int... items) {
    x.sheet(sheet, sort, items.length);
    for (int i = 0; i < items.length; i++) x.cell(sheet, i, items[i]);
  }

  /** What is at a place of a row of numbers 1 .. 99, seen by a drum of that size on a bench's belt; 0, if it is no size. */
  private static int item(FortyBelts x, int sheet, int sort, int i) {
    if (x.drums(sheet, sort, i, 1) != 1) return 0;
    int drum = x.count(2) - 1;
    x.change(0, 0, 0);
    x.change(0, 1, drum);
    for (int size = 1; size < 100; size++) if (x.told(0, 8) == 3 * (2 + size) / 2) return size;
    return -1;
  }

  /** One belt, with a drum of size 2 on the end that drives; room for ten drums. */
  static FortyBelts bench() {
    FortyBelts x = new FortyBelts();
    x.shaft(0, 1);
    x.shaft(0, 1);
    sizes(x, 2, 1);
    x.belt(0, 1, 1, 1);
    return x;
  }

  /** Items of a sheet of a bench, from the first on. */
  static void items(String call, FortyBelts x, int sheet, int sort, int... want) {
    for (int i = 0; i < want.length; i++) due(call + ", item " + i, item(x, sheet, sort, i), want[i]);
  }

  static FortyBelts shafts(int n) {
    FortyBelts x = new FortyBelts();
    for (int i = 0; i < n; i++) x.shaft(i, 100);
    return x;
  }

  static void sizes(FortyBelts x, int... sizes) {
    for (int size : sizes) x.drum(size);
  }

  /**
   * 0 =plain=> 1 =crossed=> 2, and 1 =cone=> 3; machines on 0 (off), 1, 2, 3.
   * Shaft 1 turns 100 * 20/10 = 200, shaft 2 the other way 200 * 15/30 = 100, shaft 3 200 * (8 + 2)/5 = 400;
   * the machines load 0, 100, 30, 40.
   */
  static FortyBelts hall() {
    FortyBelts x = new FortyBelts();
    x.shaft(10, 500);
    x.shaft(40, 200);
    x.shaft(60, 90);
    x.shaft(99, 9999);
    sizes(x, 20, 10, 15, 30, 8, 5, 40);
    x.belt(0, 1, 1, 60);
    x.belt(1, 12, 203, 40);
    x.belt(3, 13, 405, 999);
    x.machine(0, 5, 100, 24);
    x.machine(1, 50, 1500220, 8);
    x.machine(2, 30, 500120, 10);
    x.machine(3, 10, 4000400, 6);
    x.set(0, 2, 0);
    return x;
  }

  /** A hall with an image and what came since, bytes on the tape, and a sheet of each sort. */
  static FortyBelts busy() {
    FortyBelts x = hall();
    x.image();
    x.set(1, 0, 60);
    x.throwsOn(2, 0);
    x.change(0, 1, 6);
    feed(x, "wear 7 ;");
    sheetOf(x, 0, 0, 7, 200, 9);
    sheetOf(x, 1, 1, 300, 5, 11);
    sheetOf(x, 2, 2, 70000, 1, 99);
    return x;
  }

  /** As much as an object holds: belt i drives shaft i + 1 from shaft i / 2, machine i is on shaft i % 8. */
  static FortyBelts full() {
    FortyBelts x = shafts(8);
    sizes(x, 10, 20, 30, 40, 50, 60, 11, 21, 31, 41, 51, 61);
    for (int i = 0; i < 7; i++) x.belt(i % 6, i / 2 * 10 + i + 1, i * 100 + i + 5, 50 + i);
    for (int i = 0; i < 10; i++) x.machine(i % 8, 3 + i, 9999, 1 + i);
    for (int i = 1; i < 6; i++) feed(x, "wear " + i + ";mind 1;want " + i + ";").text();
    x.force(3);
    x.image();
    x.throwsOn(2, 0);
    x.change(4, 1, 0);
    for (int i = 0; i < 20; i++) feed(x, "wear 7; ");
    for (int i = 0; i < 4; i++) x.sheet(i, i % 3, 40);
    return x;
  }
}
