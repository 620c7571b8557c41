import java.io.IOException;
import java.lang.reflect.Method;
import java.lang.reflect.Modifier;
import java.nio.file.Files;
import java.nio.file.Path;
import java.util.Arrays;
import java.util.regex.Matcher;
import java.util.regex.Pattern;

/** README.md's examples answer what stands beside them, and it names each call of the face. */
public final class ReadmeTest {
  private static final Pattern CALL = Pattern.compile("x\\.(\\w+)\\(([^)]*)\\); *// (-?\\d+)\\b.*");
  private static final Pattern READ = Pattern.compile("read\\(x, \"([^\"]*)\"\\); *// (-?\\d+)\\b.*");
  private static final int LEAST_CALLS = 30;

  private static FortyBelts x = new FortyBelts();
  private static int asked = 0;

  public static void main(String[] args) throws IOException {
    Due.test("README.md");
    String readme = Files.readString(Path.of("README.md"));
    for (String line : readme.split("\n")) example(line);
    if (asked < LEAST_CALLS) Due.fault("has only " + asked + " calls");
    for (Method m : FortyBelts.class.getDeclaredMethods()) {
      if (Modifier.isPublic(m.getModifiers()) && !readme.contains("`" + m.getName() + "(")) Due.fault("names no " + m.getName());
    }
    Due.end();
  }

  private static void example(String line) {
    Matcher call = CALL.matcher(line);
    Matcher read = READ.matcher(line);
    if (line.equals("FortyBelts x = new FortyBelts();")) {
      x = new FortyBelts();
    } else if (call.matches()) {
      asked++;
      Due.answers(x, Long.parseLong(call.group(3)), call.group(1), numbers(call.group(2)));
    } else if (read.matches()) {
      asked++;
      Due.due(line, Due.feed(x, read.group(1)).text(), Long.parseLong(read.group(2)));
    } else if (line.startsWith("x.") || line.startsWith("read(")) {
      Due.fault("tells no answer: " + line);
    }
  }

  private static long[] numbers(String list) {
    return list.isEmpty() ? new long[0] : Arrays.stream(list.split(", *")).mapToLong(Long::parseLong).toArray();
  }
}
