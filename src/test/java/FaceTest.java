import java.io.IOException;
import java.lang.reflect.Constructor;
import java.lang.reflect.Field;
import java.lang.reflect.Method;
import java.lang.reflect.Modifier;
import java.nio.file.Files;
import java.nio.file.Path;
import java.util.ArrayList;
import java.util.List;
import java.util.Set;
import java.util.TreeSet;
import java.util.regex.Matcher;
import java.util.regex.Pattern;

/** The face is the document's, and the program keeps to the rules of ../shared/LANGUAGE.md that can be seen by looking. */
public final class FaceTest {
  private static final String[] FACE = {
    "int back()", "int belt(int,int,int,int)", "int bite(int,int)", "int cell(int,int,int)", "int change(int,int,int)", "int choose(int)",
    "int copy(int,int,int,int,int)", "int count(int)", "int cut(int,int)", "int drum(int)", "int drums(int,int,int,int)", "int engine(int,int)",
    "int feed(int,long)", "int force(int)", "int hangs()", "int image()", "int judge()", "int lay()", "int machine(int,int,int,int)", "int off(int)",
    "int runs(int)", "int save()", "int set(int,int,int)", "int shaft(int,int)", "int sheet(int,int,int)", "int start(int)", "int taken(int,int)",
    "int text()", "int throwsOn(int,int)", "int told(int,int)", "int years(int,int,int)", "long turns(int,int)",
    "FortyBelts()", "int BAD", "int FULL", "int NONE", "int STATE", "long NO",
  };
  private static final String[] FORBIDDEN = {
    "throw", "throws", "try", "catch", "synchronized", "assert", "package", "double", "float", "->", "::", "new Object", "Exact\\(", "System\\.out",
    "Thread", "Random", "nanoTime", "currentTimeMillis", "equals\\(", "hashCode", "@", "protected", "volatile", "transient", "native", "strictfp",
  };
  private static final int MOST_CLASSES = 12, MOST_FIELDS = 20, MOST_LINES = 60, MOST_PARAMETERS = 7;
  private static int wrong = 0;

  public static void main(String[] args) throws IOException {
    face();
    classes();
    String code = withoutTexts(Files.readString(Path.of("src/main/java/FortyBelts.java")));
    words(code);
    methods(code);
    System.out.println(wrong == 0 ? "the face and the rules are kept" : wrong + " rules are not kept");
    if (wrong != 0) System.exit(1);
  }

  private static void must(boolean right, String what) {
    if (!right) {
      wrong++;
      System.out.println(what);
    }
  }

  private static void face() {
    Set<String> seen = new TreeSet<>();
    for (Method m : FortyBelts.class.getDeclaredMethods()) {
      if (!Modifier.isPrivate(m.getModifiers())) seen.add(m.getReturnType() + " " + m.getName() + parameters(m.getParameterTypes()));
    }
    for (Constructor<?> c : FortyBelts.class.getDeclaredConstructors()) {
      if (!Modifier.isPrivate(c.getModifiers())) seen.add("FortyBelts" + parameters(c.getParameterTypes()));
    }
    for (Field f : FortyBelts.class.getDeclaredFields()) {
      if (!Modifier.isPrivate(f.getModifiers())) seen.add(f.getType() + " " + f.getName());
    }
    must(seen.equals(new TreeSet<>(Set.of(FACE))), "the face is " + seen);
    must(Modifier.isFinal(FortyBelts.class.getModifiers()), "the class is not final");
    for (Method m : FortyBelts.class.getDeclaredMethods()) {
      for (Method o : FortyBelts.class.getDeclaredMethods()) {
        boolean both = Modifier.isPrivate(m.getModifiers()) && Modifier.isPublic(o.getModifiers());
        must(!both || !m.getName().equals(o.getName()), "a private method bears the name " + m.getName());
      }
    }
  }

  private static String parameters(Class<?>[] types) {
    StringBuilder s = new StringBuilder("(");
    for (Class<?> t : types) s.append(s.length() > 1 ? "," : "").append(t.getName());
    return s.append(')').toString();
  }

  private static void classes() {
    List<Class<?>> all = new ArrayList<>(List.of(FortyBelts.class));
    all.addAll(List.of(FortyBelts.class.getDeclaredClasses()));
    must(all.size() <= MOST_CLASSES, all.size() + " classes");
    for (Class<?> c : all) {
      must(c == FortyBelts.class || Modifier.isStatic(c.getModifiers()) && Modifier.isPrivate(c.getModifiers()), c + " is not static and private");
      must(c.getDeclaredClasses().length == 0 || c == FortyBelts.class, c + " has classes inside");
      int fields = 0;
      for (Field f : c.getDeclaredFields()) {
        boolean isStatic = Modifier.isStatic(f.getModifiers());
        must(!isStatic || Modifier.isFinal(f.getModifiers()), f + " is not final");
        if (!isStatic) fields++;
      }
      must(fields <= MOST_FIELDS, c + " has " + fields + " fields");
    }
  }

  /** The program without its comments, texts and signs. */
  private static String withoutTexts(String program) {
    return program.replaceAll("(?s)/\\*.*?\\*/", "").replaceAll("\"[^\"\n]*\"", "\"\"").replaceAll("'[^']+'", "' '").replaceAll("//[^\n]*", "");
  }

  private static void words(String code) {
    for (String word : FORBIDDEN) {
      String pattern = word.matches("[a-zA-Z]+") ? "\\b" + word + "\\b" : word;
      must(!Pattern.compile(pattern).matcher(code).find(), "the program has " + word);
    }
    Matcher imports = Pattern.compile("import ([^;]+);").matcher(code);
    while (imports.find()) must(imports.group(1).equals("java.util.Arrays"), "the program imports " + imports.group(1));
  }

  /** By the program's own setting: a method's head stands 4 or 8 blanks in, and its end as far. */
  private static void methods(String code) {
    Matcher heads = Pattern.compile("(?m)^( {4}| {8})(?!for|if|while|switch)(?:[a-z]+ )*[A-Za-z\\[\\]]+ ?[A-Za-z]*\\(([^)]*)\\) \\{$").matcher(code);
    int found = 0;
    while (heads.find()) {
      found++;
      int end = code.indexOf("\n" + heads.group(1) + "}", heads.end());
      long lines = code.substring(heads.start(), end).lines().count() + 1;
      must(lines <= MOST_LINES, heads.group() + " has " + lines + " lines");
      must(heads.group(2).split(",").length <= MOST_PARAMETERS, heads.group() + " has too many parameters");
    }
    must(found > 100, "only " + found + " methods found");
  }
}
