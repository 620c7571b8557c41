import java.math.BigInteger;
import java.util.ArrayList;
import java.util.Arrays;
import java.util.HashMap;
import java.util.HashSet;
import java.util.List;
import java.util.Map;
import java.util.Random;
import java.util.Set;
import java.util.regex.Matcher;
import java.util.regex.Pattern;

/**
 * Runs of calls by fixed seeds, answered by FortyBelts and by a second program that takes the
 * document's words one by one: fractions without a bound, all ways and all orders tried.
 */
public final class RandomRunsTest {
  private static final int RUNS = 1500, CALLS = 420, MOST_SHOWN = 20;

  public static void main(String[] args) {
    int wrong = 0;
    Map<String, Set<Long>> seen = new HashMap<>();
    for (int run = 0; run < RUNS; run++) {
      wrong += oneRun(run, seen, wrong);
    }
    wrong += notReached(seen);
    System.out.println(wrong == 0 ? "all answers are as due" : wrong + " answers are not as due");
    if (wrong != 0) System.exit(1);
  }

  /** One run till its first wrong answer. */
  private static int oneRun(int seed, Map<String, Set<Long>> seen, int wrongYet) {
    Random random = new Random(seed);
    FortyBelts x = new FortyBelts();
    Plain plain = new Plain();
    Maker maker = new Maker(random, plain);
    StringBuilder told = new StringBuilder();
    for (int call = 0; call < CALLS; call++) {
      Call next = maker.next(call);
      long got = next.on(x);
      long want = next.on(plain);
      told.append(next).append(" -> ").append(want).append('\n');
      seen.computeIfAbsent(next.name, k -> new HashSet<>()).add(want);
      if (got != want) {
        if (wrongYet < MOST_SHOWN) {
          System.out.println("seed " + seed + ", call " + call + ": " + next + " answered " + got + ", due is " + want);
          if (wrongYet == 0) System.out.println(told);
        }
        return 1;
      }
    }
    return 0;
  }

  /** The refusals that the runs must have met, so that a generator gone lame is seen. */
  private static int notReached(Map<String, Set<Long>> seen) {
    String[] due = {
      "shaft -2 -4 7", "engine -2 100", "machine -2 -4 9", "set -2 0 1", "drum -2 -4 11", "belt -2 -3 6",
      "throwsOn -2 0 1", "change -2 0 11", "told -5 0 1 9999", "turns -4611686018427387904 0 1 -1", "runs -2 0",
      "feed -2 -4 160", "text -4 1 5 -100", "force -2 0 1 5", "judge -1 1000 2000 3000 3001 4000 5000",
      "choose -2 -1 0 1 4 10", "lay -1 0 1 4", "cut -2 1 99", "off -2 0 1 6", "hangs -1 0 1 2", "bite -2 0 1 2",
      "years -2 -1 1 999999", "start -2 -1 0 10", "save 0 2 4", "image 0 1 7", "back -3 0 7", "count -2 0 12",
      "sheet -2 -14 1", "cell -2 -11 -12 1", "copy -2 -11 -12 -13 0 40", "drums -2 -11 -12 -13 0 1", "taken -2 -11 -13 1",
    };
    int missing = 0;
    for (String row : due) {
      String[] words = row.split(" ");
      Set<Long> answers = seen.getOrDefault(words[0], Set.of());
      for (int i = 1; i < words.length; i++) {
        if (!answers.contains(Long.parseLong(words[i]))) {
          missing++;
          System.out.println("no run has met " + words[0] + " answering " + words[i]);
        }
      }
    }
    return missing;
  }

  /** A call by its name and numbers. */
  private static final class Call {
    final String name;
    final long[] n;

    Call(String name, long... n) {
      this.name = name;
      this.n = n;
    }

    private int i(int k) {
      return (int) n[k];
    }

    long on(FortyBelts x) {
      switch (name) {
        case "shaft": return x.shaft(i(0), i(1));
        case "engine": return x.engine(i(0), i(1));
        case "machine": return x.machine(i(0), i(1), i(2), i(3));
        case "set": return x.set(i(0), i(1), i(2));
        case "drum": return x.drum(i(0));
        case "belt": return x.belt(i(0), i(1), i(2), i(3));
        case "throwsOn": return x.throwsOn(i(0), i(1));
        case "change": return x.change(i(0), i(1), i(2));
        case "told": return x.told(i(0), i(1));
        case "turns": return x.turns(i(0), i(1));
        case "runs": return x.runs(i(0));
        case "feed": return x.feed(i(0), n[1]);
        case "text": return x.text();
        case "force": return x.force(i(0));
        case "judge": return x.judge();
        case "choose": return x.choose(i(0));
        case "lay": return x.lay();
        case "cut": return x.cut(i(0), i(1));
        case "off": return x.off(i(0));
        case "hangs": return x.hangs();
        case "bite": return x.bite(i(0), i(1));
        case "years": return x.years(i(0), i(1), i(2));
        case "start": return x.start(i(0));
        case "save": return x.save();
        case "image": return x.image();
        case "back": return x.back();
        case "count": return x.count(i(0));
        case "sheet": return x.sheet(i(0), i(1), i(2));
        case "cell": return x.cell(i(0), i(1), i(2));
        case "copy": return x.copy(i(0), i(1), i(2), i(3), i(4));
        case "drums": return x.drums(i(0), i(1), i(2), i(3));
        case "taken": return x.taken(i(0), i(1));
        default: throw new IllegalStateException(name);
      }
    }

    long on(Plain x) {
      try {
        return answer(x);
      } catch (Refusal r) {
        return r.answer;
      }
    }

    private long answer(Plain x) {
      switch (name) {
        case "shaft": return x.shaft(i(0), i(1));
        case "engine": return x.engine(i(0), i(1));
        case "machine": return x.machine(i(0), i(1), i(2), i(3));
        case "set": return x.set(i(0), i(1), i(2));
        case "drum": return x.drum(i(0));
        case "belt": return x.belt(i(0), i(1), i(2), i(3));
        case "throwsOn": return x.throwsOn(i(0), i(1));
        case "change": return x.change(i(0), i(1), i(2));
        case "told": return x.told(i(0), i(1));
        case "turns": return x.turns(i(0), i(1));
        case "runs": return x.runs(i(0));
        case "feed": return x.feed(i(0), n[1]);
        case "text": return x.text();
        case "force": return x.force(i(0));
        case "judge": return x.judge();
        case "choose": return x.choose(i(0));
        case "lay": return x.lay();
        case "cut": return x.cut(i(0), i(1));
        case "off": return x.off(i(0));
        case "hangs": return x.hangs();
        case "bite": return x.bite(i(0), i(1));
        case "years": return x.years(i(0), i(1), i(2));
        case "start": return x.start(i(0));
        case "save": return x.save();
        case "image": return x.image();
        case "back": return x.back();
        case "count": return x.count(i(0));
        case "sheet": return x.sheet(i(0), i(1), i(2));
        case "cell": return x.cell(i(0), i(1), i(2));
        case "copy": return x.copy(i(0), i(1), i(2), i(3), i(4));
        case "drums": return x.drums(i(0), i(1), i(2), i(3));
        case "taken": return x.taken(i(0), i(1));
        default: throw new IllegalStateException(name);
      }
    }

    @Override
    public String toString() {
      StringBuilder s = new StringBuilder(name).append('(');
      for (int k = 0; k < n.length; k++) s.append(k == 0 ? "" : ", ").append(n[k]);
      return s.append(')').toString();
    }
  }

  /** Makes calls: mostly such as are taken, and now and then any. */
  private static final class Maker {
    private static final String[] ASKED = {
      "told", "told", "told", "turns", "turns", "runs", "judge", "judge", "choose", "lay", "cut", "off", "hangs", "bite", "bite",
      "years", "years", "start", "start", "save", "image", "back", "count", "sheet", "cell", "copy", "drums", "taken",
      "engine", "set", "throwsOn", "change", "feed", "text", "force",
    };
    private static final int[] EDGES = {
      -2147483648, -100, -2, -1, 0, 1, 2, 3, 4, 5, 6, 7, 8, 9, 10, 11, 12, 13, 14, 15, 23, 24, 25, 40, 41, 98, 99, 100, 101,
      998, 999, 1000, 1001, 9998, 9999, 10000, 99999999, 100000000, 999999, 1000000, 2147483647,
    };
    final Random random;
    final Plain plain;
    final List<Call> waiting = new ArrayList<>();
    final int wildness;
    /** All runs well but for what bends and stalls, in some runs; in gentle ones that too. */
    final boolean bending, gentle;

    Maker(Random random, Plain plain) {
      this.random = random;
      this.plain = plain;
      this.wildness = 5 + random.nextInt(30);
      this.bending = random.nextInt(4) == 0;
      this.gentle = bending || random.nextBoolean();
    }

    Call next(int call) {
      if (!waiting.isEmpty()) return waiting.remove(0);
      if (random.nextInt(12) == 0 && call > 20) addText();
      if (random.nextInt(40) == 0) addSheet();
      String name = random.nextInt(100) < (call < 60 ? 75 : 6) ? building() : ASKED[random.nextInt(ASKED.length)];
      return of(name);
    }

    private String building() {
      String[] all = {"shaft", "drum", "belt", "belt", "machine", "machine"};
      if (plain.shafts.size() < 3) return "shaft";
      if (plain.drums.size() < 4) return "drum";
      return all[random.nextInt(all.length)];
    }

    private int pick(int from, int to) {
      if (random.nextInt(wildness) == 0) return EDGES[random.nextInt(EDGES.length)];
      if (random.nextInt(8) == 0) return random.nextBoolean() ? from : to;
      return to < from ? to : from + random.nextInt(to - from + 1);
    }

    private int size() {
      if (gentle) return pick(8, 16);
      return random.nextInt(3) == 0 ? pick(1, 99) : pick(8, 50);
    }

    private int below(int size) {
      return pick(0, size - 1);
    }

    private int wants() {
      if (bending && random.nextInt(12) != 0) return 9999;
      if (random.nextInt(6) == 0) return pick(0, 99999999);
      if (random.nextInt(4) == 0) return pick(0, 200) * 10000 + 9999;
      int from = random.nextInt(6) == 0 ? 0 : pick(1, 150);
      return from * 10000 + from + pick(0, 300);
    }

    private Call of(String name) {
      int belts = plain.belts.size();
      int machines = plain.machines.size();
      int drums = plain.drums.size();
      int shafts = plain.shafts.size();
      switch (name) {
        case "shaft": return new Call(name, pick(0, 99), bending ? pick(20, 400) : gentle ? pick(500, 9999) : pick(1, 9999));
        case "engine": return random.nextBoolean() ? new Call(name, 0, pick(1, 999)) : new Call(name, pick(0, 1), pick(1, 9999));
        case "machine": return new Call(name, below(shafts), gentle ? pick(0, 200) : pick(0, 999), wants(), pick(0, 24));
        case "set": return set();
        case "drum": return new Call(name, size());
        case "belt": return new Call(name, pick(0, 5), pick(0, shafts - 1) * 10 + pick(1, shafts - 1), below(drums) * 100 + below(drums),
            gentle ? pick(300, 999) : pick(1, 999));
        case "throwsOn": return new Call(name, below(belts), random.nextInt(3) == 0 ? 0 : pick(0, 1));
        case "change": return new Call(name, below(belts), pick(0, 1), below(drums));
        case "told": return new Call(name, below(belts), pick(0, 11));
        case "turns": return new Call(name, below(shafts), pick(0, 4));
        case "runs": return new Call(name, pick(0, 2));
        case "feed": return random.nextInt(3) == 0 ? new Call(name, pick(1, 8), random.nextLong()) : new Call("text");
        case "force": return new Call(name, below(plain.texts.size()));
        case "choose": return new Call(name, random.nextBoolean() ? pick(0, 1) : 10 + below(belts));
        case "cut": return new Call(name, below(belts), pick(0, 2));
        case "off": return new Call(name, below(belts));
        case "bite": return new Call(name, below(machines), pick(0, 9999));
        case "years": return new Call(name, below(belts), random.nextBoolean() ? pick(1, 999999) : pick(1, 999), pick(0, 1));
        case "start": return new Call(name, pick(0, 1));
        case "count": return new Call(name, pick(0, 6));
        case "sheet": return new Call(name, pick(0, 3), pick(-1, 2), pick(0, 40));
        case "cell": return new Call(name, pick(0, 3), pick(0, 12), random.nextBoolean() ? random.nextInt() : pick(1, 99));
        case "copy": return new Call(name, pick(0, 3), pick(0, 10), pick(0, 3), pick(0, 10), pick(0, 10));
        case "drums": return new Call(name, pick(0, 3), pick(0, 2), pick(0, 5), random.nextBoolean() ? pick(0, 12) : 1);
        case "taken": return new Call(name, below(belts), pick(0, 5));
        default: return new Call(name);
      }
    }

    private Call set() {
      int what = pick(0, 2);
      int v = what == 0 ? pick(0, 999) : what == 1 ? pick(0, 24) : pick(0, 1);
      return new Call("set", below(plain.machines.size()), what, v);
    }

    private void addSheet() {
      int sheet = random.nextInt(4);
      int sort = random.nextInt(3);
      int n = random.nextInt(41);
      waiting.add(new Call("sheet", sheet, sort, n));
      for (int i = 0; i < 3; i++) waiting.add(new Call("cell", sheet, below(Math.max(1, n)), random.nextInt()));
      for (int i = 0; i < 3; i++) waiting.add(new Call("cell", sheet, below(Math.min(6, n)), size()));
      waiting.add(new Call("copy", sheet, 0, random.nextInt(4), 0, n));
      waiting.add(new Call("drums", sheet, sort, 0, random.nextInt(4)));
    }

    private void addText() {
      StringBuilder s = new StringBuilder();
      for (String part : new String[] {"wear", "mind", "want"}) {
        s.append(part).append(random.nextInt(4) == 0 ? "\n" : " ").append(either(2)).append(" ; ");
      }
      if (random.nextInt(2) == 0) spoil(s);
      if (random.nextInt(3) == 0 && s.length() > 0) s.setLength(s.length() - 1);
      if (s.length() > 150 && random.nextInt(4) != 0) return;
      for (int i = 0; i < s.length(); i += 8) {
        int n = Math.min(8, s.length() - i);
        long bytes = 0;
        for (int k = 0; k < n; k++) bytes |= (long) (s.charAt(i + k) & 255) << 8 * k;
        if (n < 8 && random.nextBoolean()) bytes |= -1L << 8 * n;
        waiting.add(new Call("feed", n, bytes));
      }
      waiting.add(new Call("text"));
      waiting.add(new Call("force", plain.texts.size()));
      for (int i = 0; i < 3; i++) waiting.add(of(new String[] {"told", "bite", "cut", "years"}[random.nextInt(4)]));
    }

    private void spoil(StringBuilder s) {
      String[] bits = {"(", ")", "-", "not ", " not", "<", "=", ";", " 12345", "7", "x", "kind", "kinds", " or ", " and ", "\t", "\u00ff", "A", "*", "+",
        "------1", "((((((1))))))", "not not not not not not 1", "- - ( - ( - 1", "wear", "hoursx", "  ", "\n"};
      String bit = bits[random.nextInt(bits.length)];
      int at = random.nextInt(s.length() + 1);
      switch (random.nextInt(3)) {
        case 0: s.insert(at, bit); break;
        case 1: s.delete(Math.max(0, at - 1 - random.nextInt(3)), at); break;
        default: s.setLength(at); break;
      }
    }

    private String blank() {
      return random.nextInt(3) == 0 ? " " : "";
    }

    private String either(int deep) {
      String s = both(deep);
      while (random.nextInt(7) == 0) s += " or " + both(deep);
      return s;
    }

    private String both(int deep) {
      String s = denied(deep);
      while (random.nextInt(7) == 0) s += " and " + denied(deep);
      return s;
    }

    private String denied(int deep) {
      if (random.nextInt(9) == 0) return "not " + denied(deep);
      String s = sum(deep);
      int kind = random.nextInt(6);
      if (kind == 0) s += blank() + "<" + blank() + sum(deep);
      if (kind == 1) s += blank() + "=" + blank() + sum(deep);
      return s;
    }

    private String sum(int deep) {
      String s = term(deep);
      while (random.nextInt(4) == 0) s += (random.nextBoolean() ? "+" : "-") + blank() + term(deep);
      return s;
    }

    private String term(int deep) {
      String s = one(deep);
      while (random.nextInt(4) == 0) s += "*" + blank() + one(deep);
      return s;
    }

    private String one(int deep) {
      int kind = random.nextInt(10);
      if (kind < 3) return "" + random.nextInt(random.nextBoolean() ? 20 : 10000);
      if (kind == 3) return "-" + one(deep);
      if (kind == 4 && deep > 0) return "(" + either(deep - 1) + ")";
      return new String[] {"kind", "turns", "wrap", "load", "size", "hours"}[random.nextInt(6)];
    }
  }

  private static final class Refusal extends RuntimeException {
    private static final long serialVersionUID = 1;
    final long answer;

    Refusal(long answer) {
      super(null, null, false, false);
      this.answer = answer;
    }
  }

  private static void ask(boolean right, long answer) {
    if (!right) throw new Refusal(answer);
  }

  /** A fraction in lowest terms. */
  private static final class Part {
    static final Part ZERO = new Part(BigInteger.ZERO, BigInteger.ONE);
    final BigInteger above, below;

    Part(BigInteger above, BigInteger below) {
      BigInteger g = above.gcd(below);
      this.above = above.divide(g);
      this.below = below.divide(g);
    }

    static Part of(long above, long below) {
      return new Part(BigInteger.valueOf(above), BigInteger.valueOf(below));
    }

    Part times(Part o) {
      return new Part(above.multiply(o.above), below.multiply(o.below));
    }

    boolean atLeast(long v) {
      return above.compareTo(below.multiply(BigInteger.valueOf(v))) >= 0;
    }

    boolean atMost(long v) {
      return above.compareTo(below.multiply(BigInteger.valueOf(v))) <= 0;
    }

    boolean stands() {
      return above.signum() == 0;
    }

    long cut() {
      return above.divide(below).min(BigInteger.valueOf(1000000)).longValueExact();
    }
  }

  private static final class PShaft {
    int place, bends;
  }

  private static final class PMachine {
    int shaft, load, from, to, hours;
    boolean on = true;
  }

  private static final class PBelt {
    int kind, driver, driven, first, second, grip;
    boolean on = true;
  }

  /** The document, word by word. */
  private static final class Plain {
    static final long BAD = -2, NONE = -1, STATE = -3, FULL = -4;
    final List<PShaft> shafts = new ArrayList<>();
    final List<PMachine> machines = new ArrayList<>();
    final List<Integer> drums = new ArrayList<>();
    final List<PBelt> belts = new ArrayList<>();
    final List<List<Node>> texts = new ArrayList<>();
    final List<Integer> tape = new ArrayList<>();
    int turns = 100, power = 1000, rule = 0;
    Map<String, Integer> image = null;
    final Object[] sheets = new Object[4];
    /** For CUT: this belt's driven end has a drum of this size. */
    PBelt cutBelt = null;
    int cutSize;

    Plain() {
      texts.add(new Grammar("wear load * hours ; mind 5 < wrap ; want size + 3 ;").whole());
    }

    private static boolean in(long v, long from, long to) {
      return v >= from && v <= to;
    }

    private <T> T one(List<T> list, int i) {
      ask(in(i, 0, list.size() - 1), BAD);
      return list.get(i);
    }

    long shaft(int place, int bends) {
      ask(in(place, 0, 99) && in(bends, 1, 9999), BAD);
      ask(shafts.size() < 8, FULL);
      PShaft s = new PShaft();
      s.place = place;
      s.bends = bends;
      shafts.add(s);
      return shafts.size() - 1;
    }

    long engine(int what, int v) {
      ask(what == 0 ? in(v, 1, 999) : what == 1 && in(v, 1, 9999), BAD);
      long was = what == 0 ? turns : power;
      if (what == 0) turns = v;
      else power = v;
      return was;
    }

    long machine(int shaft, int load, int wants, int hours) {
      one(shafts, shaft);
      ask(in(load, 0, 999) && in(hours, 0, 24) && in(wants, 0, 99999999), BAD);
      PMachine m = new PMachine();
      m.shaft = shaft;
      m.load = load;
      m.from = wants / 10000;
      m.to = wants - m.from * 10000;
      m.hours = hours;
      ask(m.to >= m.from, BAD);
      ask(machines.size() < 10, FULL);
      machines.add(m);
      return machines.size() - 1;
    }

    long set(int machine, int what, int v) {
      PMachine m = one(machines, machine);
      ask(in(what, 0, 2) && in(v, 0, new int[] {999, 24, 1}[what]), BAD);
      long was = what == 0 ? m.load : what == 1 ? m.hours : m.on ? 1 : 0;
      if (what == 0) m.load = v;
      if (what == 1) m.hours = v;
      if (what == 2) m.on = v != 0;
      return was;
    }

    long drum(int size) {
      ask(in(size, 1, 99), BAD);
      ask(drums.size() < 12, FULL);
      drums.add(size);
      return drums.size() - 1;
    }

    long belt(int kind, int pair, int ends, int grip) {
      ask(in(kind, 0, 5) && in(pair, 0, 99) && in(ends, 0, 9999) && in(grip, 1, 999), BAD);
      PBelt b = new PBelt();
      b.kind = kind;
      b.driver = pair / 10;
      b.driven = pair % 10;
      b.first = ends / 100;
      b.second = ends % 100;
      b.grip = grip;
      one(shafts, b.driver);
      one(shafts, b.driven);
      one(drums, b.first);
      one(drums, b.second);
      ask(b.driver != b.driven && b.driven != 0 && b.first != b.second, BAD);
      ask(belts.stream().noneMatch(o -> o.driven == b.driven), STATE);
      ask(!reach(b.driven).contains(b.driver), STATE);
      ask(belts.size() < 7, FULL);
      belts.add(b);
      return belts.size() - 1;
    }

    /** All shafts that one drives by belts on or off. */
    private Set<Integer> reach(int shaft) {
      Set<Integer> all = new HashSet<>(Set.of(shaft));
      for (PBelt b : belts) if (b.driver == shaft) all.addAll(reach(b.driven));
      return all;
    }

    long throwsOn(int belt, int is) {
      PBelt b = one(belts, belt);
      ask(in(is, 0, 1), BAD);
      long was = b.on ? 1 : 0;
      b.on = is == 1;
      return was;
    }

    long change(int belt, int end, int drum) {
      PBelt b = one(belts, belt);
      ask(in(end, 0, 1), BAD);
      one(drums, drum);
      ask(drum != (end == 0 ? b.second : b.first), BAD);
      long was = end == 0 ? b.first : b.second;
      if (end == 0) b.first = drum;
      else b.second = drum;
      return was;
    }

    private int a(PBelt b) {
      return drums.get(b.first);
    }

    private int b(PBelt b) {
      return b == cutBelt ? cutSize : drums.get(b.second);
    }

    private int way(int kind) {
      return new int[] {1, -1, 1, 1, 1, 1}[kind];
    }

    private int wrap(PBelt b) {
      int plain = 50 - Math.abs(b(b) - a(b));
      if (plain < 10) plain = 10;
      return new int[] {plain, plain + 20, plain + 15, plain, plain + 10, (plain + 20) / 2}[b.kind];
    }

    private int length(PBelt b) {
      int both = a(b) + b(b);
      int plain = 2 * Math.abs(shafts.get(b.driver).place - shafts.get(b.driven).place) + both * 3 / 2;
      return plain + new int[] {0, both, 10, 0, 0, both}[b.kind];
    }

    private PBelt driver(int shaft) {
      for (PBelt b : belts) if (b.driven == shaft && b.on) return b;
      return null;
    }

    private Part turnsOf(int shaft) {
      if (shaft == 0) return Part.of(turns, 1);
      PBelt b = driver(shaft);
      if (b == null) return Part.ZERO;
      return turnsOf(b.driver).times(Part.of(a(b) + (b.kind == 3 ? 2 : 0), b(b)));
    }

    private int wayOf(int shaft) {
      if (shaft == 0) return 1;
      PBelt b = driver(shaft);
      return b == null || turnsOf(shaft).stands() ? 0 : wayOf(b.driver) * way(b.kind);
    }

    private Set<Integer> from(int shaft) {
      Set<Integer> all = new HashSet<>(Set.of(shaft));
      for (PBelt b : belts) if (b.on && b.driver == shaft) all.addAll(from(b.driven));
      return all;
    }

    private long loaded(PMachine m, int more) {
      return m.on ? (m.load + more) * turnsOf(m.shaft).cut() / 100 : 0;
    }

    private long allLoaded() {
      return machines.stream().mapToLong(m -> loaded(m, 0)).sum();
    }

    private long pull(PBelt b) {
      Set<Integer> s = from(b.driven);
      return b.on ? machines.stream().filter(m -> s.contains(m.shaft)).mapToLong(m -> loaded(m, 0)).sum() : 0;
    }

    private boolean slips(PBelt b) {
      return pull(b) > b.grip * wrap(b) / 50;
    }

    private long pullsAt(int shaft) {
      return belts.stream().filter(b -> b.driver == shaft || b.driven == shaft).mapToLong(this::pull).sum();
    }

    private boolean well(PMachine m) {
      Part t = turnsOf(m.shaft);
      return !m.on || t.atLeast(m.from) && t.atMost(m.to);
    }

    private long howManyWell() {
      return machines.stream().filter(this::well).count();
    }

    private long wear(PBelt b) {
      Set<Integer> s = from(b.driven);
      int hours = machines.stream().filter(m -> b.on && m.on && s.contains(m.shaft)).mapToInt(m -> m.hours).max().orElse(0);
      long says = says(0, b.kind, turnsOf(b.driver).cut(), wrap(b), pull(b), a(b) + b(b), hours);
      return Math.max(0, Math.min(9999, says));
    }

    private int says(int part, long... names) {
      return texts.get(rule).get(part).value(names);
    }

    private long cost(int size) {
      return Math.max(1, Math.min(999, says(2, 0, 0, 0, 0, size, 0)));
    }

    long told(int belt, int what) {
      ask(in(belt, 0, belts.size() - 1) && in(what, 0, 11), -5);
      PBelt b = belts.get(belt);
      long[] all = {b.kind, b.driver, b.driven, b.first, b.second, b.on ? 1 : 0, way(b.kind), wrap(b), length(b), pull(b), slips(b) ? 1 : 0, wear(b)};
      return all[what];
    }

    long turns(int shaft, int what) {
      ask(in(shaft, 0, shafts.size() - 1) && in(what, 0, 4), -4611686018427387904L);
      long pulls = pullsAt(shaft);
      Part t = turnsOf(shaft);
      long[] all = {t.above.longValueExact(), t.below.longValueExact(), wayOf(shaft), pulls, pulls > shafts.get(shaft).bends ? 1 : 0};
      return all[what];
    }

    private long bits(java.util.function.Predicate<PMachine> is) {
      long bits = 0;
      for (int i = 0; i < machines.size(); i++) if (is.test(machines.get(i))) bits |= 1L << i;
      return bits;
    }

    long runs(int what) {
      ask(in(what, 0, 2), BAD);
      if (what == 0) return bits(this::well);
      return what == 1 ? bits(m -> !turnsOf(m.shaft).stands()) : allLoaded();
    }

    long feed(int n, long bytes) {
      ask(in(n, 1, 8), BAD);
      ask(tape.size() + n <= 160, FULL);
      for (int i = 0; i < n; i++) tape.add((int) (bytes >>> 8 * i & 0xff));
      return tape.size();
    }

    long text() {
      ask(texts.size() < 6, FULL);
      StringBuilder s = new StringBuilder();
      for (int c : tape) s.append((char) c);
      tape.clear();
      texts.add(new Grammar(s.toString()).whole());
      return texts.size() - 1;
    }

    long force(int text) {
      one(texts, text);
      long was = rule;
      rule = text;
      return was;
    }

    long judge() {
      for (int i = 0; i < machines.size(); i++) if (!well(machines.get(i))) return 1000 + i;
      for (int i = 0; i < belts.size(); i++) if (slips(belts.get(i))) return 2000 + i;
      for (int i = 0; i < shafts.size(); i++) if (pullsAt(i) > shafts.get(i).bends) return 3000 + i;
      for (int i = 0; i < drums.size(); i++) {
        int drum = i;
        if (belts.stream().filter(b -> b.first == drum || b.second == drum).count() > 1) return 4000 + i;
      }
      return allLoaded() > power ? 5000 : NONE;
    }

    /** The best way: how many run well, how many belts change, and their drums. */
    private long[] chosen() {
      int m = Math.min(4, belts.size());
      int[] had = new int[m];
      for (int i = 0; i < m; i++) had[i] = belts.get(i).second;
      long[] best = null;
      long ways = 1;
      for (int i = 0; i < m; i++) ways *= drums.size();
      for (long way = 0; way < ways; way++) {
        long rest = way;
        for (int i = m - 1; i >= 0; i--) {
          belts.get(i).second = (int) (rest % drums.size());
          rest /= drums.size();
        }
        if (!eachDrumAtOneEnd()) continue;
        long[] now = new long[2 + m];
        now[0] = howManyWell();
        for (int i = 0; i < m; i++) {
          now[2 + i] = belts.get(i).second;
          if (now[2 + i] != had[i]) now[1]++;
        }
        if (best == null || now[0] > best[0] || now[0] == best[0] && now[1] < best[1]) best = now;
      }
      for (int i = 0; i < m; i++) belts.get(i).second = had[i];
      return best;
    }

    private boolean eachDrumAtOneEnd() {
      long ends = 0;
      for (PBelt b : belts) {
        if ((ends >> b.first & 1) == 1) return false;
        ends |= 1L << b.first;
        if ((ends >> b.second & 1) == 1) return false;
        ends |= 1L << b.second;
      }
      return true;
    }

    long choose(int what) {
      int m = Math.min(4, belts.size());
      ask(what == 0 || what == 1 || in(what, 10, 10 + m - 1), BAD);
      long[] best = chosen();
      ask(best != null, NONE);
      return best[what < 10 ? what : what - 8];
    }

    long lay() {
      long[] best = chosen();
      ask(best != null, NONE);
      for (int i = 2; i < best.length; i++) belts.get(i - 2).second = (int) best[i];
      return best[1];
    }

    long cut(int belt, int what) {
      PBelt b = one(belts, belt);
      ask(in(what, 0, 2), BAD);
      List<long[]> all = new ArrayList<>();
      cutBelt = b;
      for (cutSize = 1; cutSize <= 99; cutSize++) all.add(new long[] {cutSize, howManyWell(), cost(cutSize)});
      cutBelt = null;
      all.sort((p, q) -> p[1] != q[1] ? Long.compare(q[1], p[1]) : p[2] != q[2] ? Long.compare(p[2], q[2]) : Long.compare(p[0], q[0]));
      return all.get(0)[what];
    }

    long off(int belt) {
      PBelt b = one(belts, belt);
      long now = bits(m -> !turnsOf(m.shaft).stands());
      boolean was = b.on;
      b.on = false;
      long stand = bits(m -> turnsOf(m.shaft).stands());
      b.on = was;
      return now & stand;
    }

    long hangs() {
      long[] many = new long[belts.size()];
      for (int i = 0; i < many.length; i++) many[i] = Long.bitCount(off(i) & bits(m -> m.on));
      long most = Arrays.stream(many).max().orElse(0);
      ask(most > 0, NONE);
      for (int i = 0; i < many.length; i++) if (many[i] == most) return i;
      throw new IllegalStateException();
    }

    long bite(int machine, int more) {
      PMachine bitten = one(machines, machine);
      ask(in(more, 0, 9999), BAD);
      long all = machines.stream().mapToLong(m -> loaded(m, m == bitten ? more : 0)).sum();
      if (all <= power) return 0;
      return bits(m -> {
        if (m == bitten || !m.on || turnsOf(m.shaft).stands()) return false;
        long t = turnsOf(m.shaft).cut();
        return says(1, 0, t, (all - power) * t / all, m.load, 0, m.hours) != 0;
      });
    }

    private long days(PBelt b, int worn) {
      long w = wear(b);
      return w == 0 ? NONE : worn / w + (worn % w == 0 ? 0 : 1);
    }

    long years(int belt, int worn, int what) {
      ask(in(worn, 1, 999999) && in(what, 0, 1), BAD);
      if (what == 0) return days(one(belts, belt), worn);
      long least = belts.stream().mapToLong(b -> days(b, worn)).filter(d -> d != NONE).min().orElse(NONE);
      ask(least != NONE, NONE);
      for (int i = 0; i < belts.size(); i++) if (days(belts.get(i), worn) == least) return i;
      throw new IllegalStateException();
    }

    long start(int what) {
      ask(in(what, 0, 1), BAD);
      boolean[] on = new boolean[belts.size()];
      int left = 0;
      for (int i = 0; i < on.length; i++) {
        on[i] = belts.get(i).on;
        if (on[i]) left++;
        belts.get(i).on = false;
      }
      long[] found = allLoaded() > power ? null : order(on, left, 0, 0);
      for (int i = 0; i < on.length; i++) belts.get(i).on = on[i];
      ask(found != null, NONE);
      return found[what];
    }

    /** The first order of what is left, by trying them all: its digits and its jerk. */
    private long[] order(boolean[] due, int left, long digits, long jerk) {
      if (left == 0) return new long[] {digits, jerk};
      for (int i = 0; i < due.length; i++) {
        PBelt b = belts.get(i);
        if (!due[i] || b.on || turnsOf(b.driver).stands()) continue;
        long ahead = allLoaded();
        b.on = true;
        long now = allLoaded();
        long[] found = now > power ? null : order(due, left - 1, digits * 10 + i, Math.max(jerk, now - ahead));
        b.on = false;
        if (found != null) return found;
      }
      return null;
    }

    long save() {
      long bits = 0;
      for (int i = 1; i < shafts.size(); i++) {
        Set<Integer> s = from(i);
        if (!turnsOf(i).stands() && machines.stream().noneMatch(m -> m.on && s.contains(m.shaft))) bits |= 1L << i;
      }
      return bits;
    }

    long image() {
      image = new HashMap<>();
      image.put("turns", turns);
      image.put("power", power);
      image.put("rule", rule);
      for (int i = 0; i < belts.size(); i++) {
        image.put("first" + i, belts.get(i).first);
        image.put("second" + i, belts.get(i).second);
        image.put("on" + i, belts.get(i).on ? 1 : 0);
      }
      for (int i = 0; i < machines.size(); i++) {
        image.put("load" + i, machines.get(i).load);
        image.put("runs" + i, machines.get(i).on ? 1 : 0);
      }
      return belts.size();
    }

    long back() {
      ask(image != null, STATE);
      turns = image.get("turns");
      power = image.get("power");
      rule = image.get("rule");
      for (int i = 0; image.containsKey("first" + i); i++) {
        belts.get(i).first = image.get("first" + i);
        belts.get(i).second = image.get("second" + i);
        belts.get(i).on = image.get("on" + i) == 1;
      }
      for (int i = 0; image.containsKey("load" + i); i++) {
        machines.get(i).load = image.get("load" + i);
        machines.get(i).on = image.get("runs" + i) == 1;
      }
      return belts.size();
    }

    long count(int what) {
      ask(in(what, 0, 6), BAD);
      return new int[] {shafts.size(), machines.size(), drums.size(), belts.size(), texts.size(), tape.size(), rule}[what];
    }

    long sheet(int sheet, int sort, int n) {
      ask(in(sheet, 0, 3) && in(sort, -1, 2), BAD);
      if (sort >= 0) {
        ask(n <= 40, BAD);
        ask(n >= 0, -14);
      }
      sheets[sheet] = sort == 0 ? new byte[n] : sort == 1 ? new short[n] : sort == 2 ? new int[n] : null;
      return 1;
    }

    private static int sortOf(Object row) {
      return row instanceof byte[] ? 0 : row instanceof short[] ? 1 : 2;
    }

    private static int sizeOf(Object row) {
      return java.lang.reflect.Array.getLength(row);
    }

    long cell(int sheet, int i, int v) {
      ask(in(sheet, 0, 3), BAD);
      Object row = sheets[sheet];
      ask(row != null, -11);
      ask(in(i, 0, sizeOf(row) - 1), -12);
      if (row instanceof byte[]) ((byte[]) row)[i] = (byte) v;
      if (row instanceof short[]) ((short[]) row)[i] = (short) v;
      if (row instanceof int[]) ((int[]) row)[i] = v;
      return 1;
    }

    long copy(int sheet, int i, int other, int j, int n) {
      ask(in(sheet, 0, 3) && in(other, 0, 3), BAD);
      ask(sheets[sheet] != null && sheets[other] != null, -11);
      ask(sheets[sheet].getClass() == sheets[other].getClass(), -13);
      try {
        System.arraycopy(sheets[sheet], i, sheets[other], j, n);
      } catch (IndexOutOfBoundsException e) {
        throw new Refusal(-12);
      }
      return n;
    }

    long drums(int sheet, int sort, int from, int n) {
      ask(in(sheet, 0, 3) && in(sort, 0, 2) && in(n, 0, 12), BAD);
      Object row = sheets[sheet];
      ask(row == null || sortOf(row) == sort, -13);
      ask(row != null, -11);
      long came = 0;
      for (long k = 0; k < n; k++) {
        ask(in(from + k, 0, sizeOf(row) - 1), -12);
        int size = ((Number) java.lang.reflect.Array.get(row, (int) (from + k))).intValue();
        if (in(size, 1, 99) && drums.size() < 12) {
          drums.add(size);
          came++;
        }
      }
      return came;
    }

    long taken(int belt, int k) {
      ask(in(k, 0, 5), BAD);
      ask(in(belt, 0, belts.size() - 1), -11);
      int kind = belts.get(belt).kind;
      Set<Integer> up = new HashSet<>();
      for (int at = kind; at >= 0; at = new int[] {-1, 0, 0, 0, 2, 1}[at]) up.add(at);
      ask(up.contains(k), -13);
      return belts.get(belt).grip;
    }
  }

  /** A tree of what a text says. */
  private static final class Node {
    final String sign;
    final int number;
    final Node left, right;

    Node(String sign, int number, Node left, Node right) {
      this.sign = sign;
      this.number = number;
      this.left = left;
      this.right = right;
    }

    int value(long[] names) {
      if (sign.equals("number")) return number;
      int at = Arrays.asList("kind", "turns", "wrap", "load", "size", "hours").indexOf(sign);
      if (at >= 0) return (int) names[at];
      int l = left == null ? 0 : left.value(names);
      int r = right.value(names);
      switch (sign) {
        case "or": return l != 0 || r != 0 ? 1 : 0;
        case "and": return l != 0 && r != 0 ? 1 : 0;
        case "not": return r == 0 ? 1 : 0;
        case "<": return l < r ? 1 : 0;
        case "=": return l == r ? 1 : 0;
        case "+": return l + r;
        case "-": return l - r;
        case "*": return l * r;
        default: throw new IllegalStateException(sign);
      }
    }
  }

  /** The grammar, over tokens that a pattern finds. */
  private static final class Grammar {
    private static final Pattern TOKEN = Pattern.compile("[a-z]+|[0-9]+|[^ \n]");
    final List<String> tokens = new ArrayList<>();
    final List<Integer> places = new ArrayList<>();
    int at = 0;
    int open = 0;

    Grammar(String s) {
      Matcher m = TOKEN.matcher(s);
      while (m.find()) {
        tokens.add(m.group());
        places.add(m.start());
      }
      tokens.add("end");
      places.add(s.length());
    }

    private String token() {
      return tokens.get(at).equals("end") && at < tokens.size() - 1 ? "broken" : tokens.get(at);
    }

    private Refusal fault() {
      return new Refusal(-100 - places.get(at));
    }

    private boolean takes(String token) {
      if (!token().equals(token)) return false;
      at++;
      return true;
    }

    private void must(String token) {
      if (!takes(token)) throw fault();
    }

    List<Node> whole() {
      List<Node> parts = new ArrayList<>();
      for (String key : new String[] {"wear", "mind", "want"}) {
        must(key);
        parts.add(either());
        must(";");
      }
      if (at < tokens.size() - 1) throw fault();
      return parts;
    }

    private Node either() {
      Node n = both();
      while (takes("or")) n = new Node("or", 0, n, both());
      return n;
    }

    private Node both() {
      Node n = denied();
      while (takes("and")) n = new Node("and", 0, n, denied());
      return n;
    }

    private void opens() {
      if (open == 5) throw fault();
      open++;
      at++;
    }

    private Node denied() {
      if (token().equals("not")) {
        opens();
        Node n = new Node("not", 0, null, denied());
        open--;
        return n;
      }
      Node n = sum();
      if (takes("<")) return new Node("<", 0, n, sum());
      if (takes("=")) return new Node("=", 0, n, sum());
      return n;
    }

    private Node sum() {
      Node n = term();
      while (true) {
        if (takes("+")) n = new Node("+", 0, n, term());
        else if (takes("-")) n = new Node("-", 0, n, term());
        else return n;
      }
    }

    private Node term() {
      Node n = single();
      while (takes("*")) n = new Node("*", 0, n, single());
      return n;
    }

    private Node single() {
      String t = token();
      if (t.equals("(")) {
        opens();
        Node n = either();
        must(")");
        open--;
        return n;
      }
      if (t.equals("-")) {
        opens();
        Node n = new Node("-", 0, null, single());
        open--;
        return n;
      }
      if (t.matches("[0-9]{1,4}")) {
        at++;
        return new Node("number", Integer.parseInt(t), null, null);
      }
      if (t.matches("kind|turns|wrap|load|size|hours")) {
        at++;
        return new Node(t, 0, null, null);
      }
      throw fault();
    }
  }
}
