import java.lang.reflect.InvocationTargetException;
import java.lang.reflect.Method;
import java.util.Arrays;
import java.util.Comparator;

/**
 * Runs a class's tests of edges: each is a static method named promise, two digits for the promise
 * whose words name the edge, an underscore, and what holds at it.
 */
final class Edges {
  private static final String BEGIN = "promise";
  private static final int DIGITS = BEGIN.length() + 2;

  private Edges() {}

  /** Fails, too, if a promise from the first to the last has no test there. */
  static void run(Class<?> tests, int first, int last) {
    int[] found = new int[last + 1];
    Method[] all = tests.getDeclaredMethods();
    Arrays.sort(all, Comparator.comparing(Method::getName));
    for (Method m : all) {
      if (m.getName().startsWith(BEGIN)) {
        found[Integer.parseInt(m.getName().substring(BEGIN.length(), DIGITS))]++;
        runOne(m);
      }
    }
    for (int promise = first; promise <= last; promise++) {
      Due.test(BEGIN + " " + promise);
      if (found[promise] == 0) Due.fault("has no test of its edges");
    }
    System.out.println(Arrays.stream(found).sum() + " tests of edges");
    Due.end();
  }

  private static void runOne(Method test) {
    Due.test(test.getName());
    try {
      test.invoke(null);
    } catch (IllegalAccessException | InvocationTargetException e) {
      throw new AssertionError(test.getName(), e);
    }
  }
}
