import java.io.IOException;
import java.lang.reflect.Constructor;
import java.lang.reflect.Field;
import java.lang.reflect.Method;
import java.lang.reflect.Modifier;
import java.nio.file.Files;
import java.nio.file.Path;
import java.util.ArrayList;
import java.util.Arrays;
import java.util.List;
import java.util.Set;
import java.util.TreeSet;
import java.util.regex.Matcher;
import java.util.regex.Pattern;

/** The face is the document's, and the program keeps to the rules of ../shared/LANGUAGE.md that can be seen by looking. */
public final class FaceTest {
  private static final String[] FACE = {
    "int back()", "int belt(int,int,int,int)", "int bite(int,int)", "int cell(int,int,int)", "int change(int,int,int)", "int choose(int)",
    "int copy(int,int,int,int,int)", "int count(int)", "int cut(int,int)", "int drum(int)", "int drums(int,int,int,int)", "int engine(int,int)",
    "int feed(int,long)", "int force(int)", "int hangs()", "int image()", "int judge()", "int lay()", "int machine(int,int,int,int)", "int off(int)",
    "int runs(int)", "int save()", "int set(int,int,int)", "int shaft(int,int)", "int sheet(int,int,int)", "int start(int)", "int taken(int,int)",
    "int text()", "int throwsOn(int,int)", "int told(int,int)", "int years(int,int,int)", "long turns(int,int)",
    "FortyBelts()", "int BAD", "int FULL", "int NONE", "int STATE", "long NO",
  };
  private static final String[] FORBIDDEN = {
    "\\bthrow\\b", "\\bthrows\\b", "\\btry\\b", "\\bcatch\\b", "\\bsynchronized\\b", "\\bassert\\b", "\\bpackage\\b", "\\bvolatile\\b", "\\bnative\\b",
    "::", "\\) *->", "\\b(?!default\\b)[a-z]\\w* *->", "new Object\\b", "Exact\\(", "System\\.(?!arraycopy)", "\\bThread\\b", "\\bRandom\\b", "hashCode\\(", "toString\\(\\) *\\{",
  };
  private static final Set<String> IMPORTS =
    Set.of("java.util.Arrays", "java.util.ArrayList", "java.util.List", "java.util.Iterator");
  /** LANGUAGE.md says some twelve, some twenty, some sixty; at most seven. */
  private static final int MOST_CLASSES = 14, MOST_FIELDS = 23, MOST_LINES = 65, MOST_PARAMETERS = 7;
  private static final int LEAST_METHODS = 33;
  private static int wrong = 0;

  public static void main(String[] args) throws IOException {
    face();
    classes();
    String code = withoutTexts(Files.readString(Path.of("src/main/java/FortyBelts.java")));
    words(code);
    methods(code);
    System.out.println(wrong == 0 ? "the face and the rules are kept" : wrong + " rules are not kept");
    if (wrong != 0) System.exit(1);
  }

  private static void must(boolean right, String what) {
    if (!right) {
      wrong++;
      System.out.println(what);
    }
  }

  private static void face() {
    Set<String> seen = new TreeSet<>();
    for (Method m : FortyBelts.class.getDeclaredMethods()) {
      if (!Modifier.isPrivate(m.getModifiers())) seen.add(m.getReturnType() + " " + m.getName() + parameters(m.getParameterTypes()));
    }
    for (Constructor<?> c : FortyBelts.class.getDeclaredConstructors()) {
      if (!Modifier.isPrivate(c.getModifiers())) seen.add("FortyBelts" + parameters(c.getParameterTypes()));
    }
    for (Field f : FortyBelts.class.getDeclaredFields()) {
      if (!Modifier.isPrivate(f.getModifiers())) seen.add(f.getType() + " " + f.getName());
    }
    must(seen.equals(new TreeSet<>(Set.of(FACE))), "the face is " + seen);
    must(Modifier.isFinal(FortyBelts.class.getModifiers()), "the class is not final");
    must(Modifier.isPublic(FortyBelts.class.getModifiers()), "the class is not public");
    for (Method m : FortyBelts.class.getDeclaredMethods()) {
      for (Method o : FortyBelts.class.getDeclaredMethods()) {
        boolean both = Modifier.isPrivate(m.getModifiers()) && Modifier.isPublic(o.getModifiers());
        must(!both || !m.getName().equals(o.getName()), "a private method bears the name " + m.getName());
      }
    }
  }

  private static String parameters(Class<?>[] types) {
    StringBuilder s = new StringBuilder("(");
    for (Class<?> t : types) s.append(s.length() > 1 ? "," : "").append(t.getName());
    return s.append(')').toString();
  }

  private static void classes() {
    List<Class<?>> all = new ArrayList<>(List.of(FortyBelts.class));
    for (int i = 0; i < all.size(); i++) all.addAll(Arrays.asList(all.get(i).getDeclaredClasses()));
    must(all.size() <= MOST_CLASSES, all.size() + " classes");
    for (Class<?> c : all) {
      int modifiers = c.getModifiers();
      must(c == FortyBelts.class || Modifier.isStatic(modifiers) && !Modifier.isPublic(modifiers), c + " is not static, or is public");
      int fields = 0;
      for (Field f : c.getDeclaredFields()) {
        boolean isStatic = Modifier.isStatic(f.getModifiers());
        must(!isStatic || Modifier.isFinal(f.getModifiers()), f + " is not final");
        if (!isStatic) fields++;
      }
      must(fields <= MOST_FIELDS, c + " has " + fields + " fields");
    }
  }

  /** The program without its comments, texts and signs. */
  private static String withoutTexts(String program) {
    Matcher comments = Pattern.compile("(?s)/\\*.*?\\*/").matcher(program);
    String code = comments.replaceAll(m -> "\n".repeat((int) m.group().chars().filter(c -> c == '\n').count()));
    return code.replaceAll("\"[^\"\n]*\"", "\"\"").replaceAll("'[^']+'", "' '").replaceAll("//[^\n]*", "");
  }

  private static void words(String code) {
    for (String word : FORBIDDEN) {
      Matcher found = Pattern.compile(word).matcher(code);
      must(!found.find(), "the program has " + word);
    }
    Matcher imports = Pattern.compile("import ([^;]+);").matcher(code);
    while (imports.find()) must(IMPORTS.contains(imports.group(1)), "the program imports " + imports.group(1));
  }

  /** A method's head is what stands ahead of a { in a class, with a ( in it. */
  private static void methods(String code) {
    List<Integer> opened = new ArrayList<>();
    int found = 0;
    int begin = 0;
    for (int at = 0; at < code.length(); at++) {
      char c = code.charAt(at);
      if (c == '{') {
        opened.add(at);
        String head = code.substring(begin, at).strip();
        if (isMethod(head)) {
          found++;
          method(head, code, at);
        }
      } else if (c == '}' && !opened.isEmpty()) {
        opened.remove(opened.size() - 1);
      }
      if (c == '{' || c == '}' || c == ';') begin = at + 1;
    }
    must(opened.isEmpty(), "not all { are closed");
    must(found >= LEAST_METHODS, "only " + found + " methods found");
  }

  private static boolean isMethod(String head) {
    return head.matches("(?s)[a-zA-Z<>\\[\\], ]*\\b[a-zA-Z]\\w*\\s*\\([^()]*\\)") && !head.matches("(?s)(for|if|while|switch|else|do|return|case|new)\\b.*");
  }

  private static void method(String head, String code, int begin) {
    int open = 0;
    int end = begin;
    do {
      if (code.charAt(end) == '{') open++;
      if (code.charAt(end) == '}') open--;
      end++;
    } while (open > 0 && end < code.length());
    long lines = code.substring(begin, end).lines().count();
    must(lines <= MOST_LINES, head + " has " + lines + " lines");
    must(head.chars().filter(c -> c == ',').count() < MOST_PARAMETERS, head + " has too many parameters");
  }
}
