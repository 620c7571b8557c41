/** Promises 13 to 15: texts. */
public final class TextsTest {
  public static void main(String[] args) {
    tapeFed();
    textsAdded();
    faultsOfGrammar();
    faultsOfTokens();
    faultsOfTapes();
    faultsOfDepth();
    valuesOfSigns();
    valuesBound();
    namesOfWear();
    namesOfMind();
    namesOfWant();
    ruleForced();
    Due.end();
  }

  private static void tapeFed() {
    Due.promise(13);
    FortyBelts x = new FortyBelts();
    Due.due("feed(1)", x.feed(1, 'w'), 1);
    Due.due("feed(3), the higher bytes left out", x.feed(3, -1L << 24 | 'e' | 'a' << 8 | 'r' << 16), 4);
    Due.feed(x, " 3;mind 1;want 2;");
    Due.due("count", x.count(5), 21);
    Due.due("text", x.text(), 1);
    for (int i = 1; i <= 19; i++) Due.due("feed(8)", x.feed(8, -1L), 8 * i);
    Due.due("feed, one too many", x.feed(8, -1L) + x.feed(1, 0), 160 + -4);
    Due.Maker nearlyFull = () -> {
      FortyBelts y = new FortyBelts();
      for (int i = 0; i < 19; i++) y.feed(8, 0x2020202020202020L);
      y.feed(3, 0x202020L);
      return y;
    };
    Due.still("feed, full", nearlyFull, y -> y.feed(6, 0), -4);
    Due.due("feed, just full", nearlyFull.make().feed(5, 0), 160);
    for (int n : new int[] {0, 9, -1, Integer.MIN_VALUE, Integer.MAX_VALUE}) {
      Due.still("feed(" + n + ")", Due::busy, y -> y.feed(n, 0), -2);
      Due.still("feed(" + n + "), full", nearlyFull, y -> y.feed(n, 0), -2);
    }
  }

  private static long read(String text) {
    return Due.feed(new FortyBelts(), text).text();
  }

  private static void textsAdded() {
    Due.promise(14);
    Due.still("text, empty", Due::hall, FortyBelts::text, -100);
    FortyBelts x = Due.hall();
    for (int i = 1; i <= 5; i++) {
      Due.due("text", Due.feed(x, "wear " + i + "; mind 1; want 1;").text(), i);
      Due.due("the tape", x.count(5), 0);
      Due.due("fault", Due.feed(x, "wear").text(), i < 5 ? -104 : -4);
      Due.due("the tape by a fault", x.count(5), i < 5 ? 0 : 4);
      Due.due("texts", x.count(4), i + 1);
    }
    Due.due("the rule stays", x.count(6), 0);
    for (int i = 1; i <= 5; i++) {
      x.force(i);
      Due.due("what each says", x.told(0, 11), i);
    }
    Due.Maker full = () -> {
      FortyBelts y = Due.hall();
      for (int i = 0; i < 5; i++) Due.feed(y, "wear 1; mind 1; want 1;").text();
      return Due.feed(y, "?");
    };
    Due.still("text, full", full, FortyBelts::text, -4);
    FortyBelts z = Due.feed(Due.hall(), "wear 2 * x ; mind 1 ; want 1 ;");
    Due.due("fault", z.text(), -109);
    Due.due("texts", z.count(4), 1);
    Due.due("the rule", z.told(0, 11), 1700);
  }

  private static void faultsOfGrammar() {
    Due.due("right", read("wear 1 ; mind 1 ; want 1 ;"), 1);
    Due.due("right, no blanks", read("wear(1);mind-1;want(not 1);"), 1);
    Due.due("right, blanks of both sorts", read("\n wear\n1 ;\nmind 1 ; want 1 ; \n "), 1);
    Due.due("right, 160 bytes", read(" ".repeat(137) + "wear 1; mind 1; want 1;"), 1);
    Due.due("blanks alone", read("   "), -103);
    Due.due("ends after wear", read("wear"), -104);
    Due.due("ends after an E", read("wear 1"), -106);
    Due.due("ends ahead of the last ;", read("wear 1 ; mind 1 ; want 1"), -124);
    Due.due("ends with blanks", read("wear 1 ; mind 1 ; want 1 \n "), -127);
    Due.due("ends after two", read("wear 1 ; mind 1 ; "), -118);
    Due.due("one ; more", read("wear 1 ; mind 1 ; want 1 ; ;"), -127);
    Due.due("more after the end", read("wear 1 ; mind 1 ; want 1 ; wear 1 ;"), -127);
    Due.due("mind first", read("mind 1 ; wear 1 ; want 1 ;"), -100);
    Due.due("wear twice", read("wear 1 ; wear 1 ; want 1 ;"), -109);
    Due.due("a name first", read("kind 1 ; mind 1 ; want 1 ;"), -100);
    Due.due("wear for an E", read("wear wear ; mind 1 ; want 1 ;"), -105);
    Due.due("want second", read("wear 1 ; want 1 ; mind 1 ;"), -109);
    Due.due("no E", read("wear ;"), -105);
    Due.due("a key for an E", read("wear want ;"), -105);
    Due.due("two names", read("wear kind kind ;"), -110);
    Due.due("a name and a number", read("wear kind 5 ;"), -110);
    Due.due("< twice", read("wear 1 < 2 < 3 ;"), -111);
    Due.due("< and =", read("wear 1 < 2 = 3 ;"), -111);
    Due.due("< in a bracket", read("wear (1 < 2) < 3 ; mind 1 ; want 1 ;"), 1);
    Due.due("< of an and", read("wear 1 < 2 and 2 < 3 or 3 = 3 ; mind 1 ; want 1 ;"), 1);
    Due.due("< at once", read("wear < 2 ;"), -105);
    Due.due("< and nothing", read("wear 2 < ;"), -109);
    Due.due("not behind +", read("wear 1 + not 2 ;"), -109);
    Due.due("not behind <", read("wear 1 < not 2 ;"), -109);
    Due.due("not behind -", read("wear - not 2 ;"), -107);
    Due.due("not behind not, and, or", read("wear not not 1 and not 2 or not 3 ; mind 1 ; want 1 ;"), 1);
    Due.due("+ at once", read("wear + 1 ;"), -105);
    Due.due("* behind +", read("wear 1 + * 2 ;"), -109);
    Due.due("- behind +, *, <", read("wear 1 + - 2 * - 3 < - 4 - - 5 ; mind 1 ; want 1 ;"), 1);
    Due.due("( not closed", read("wear ( 1 ;"), -109);
    Due.due("( empty", read("wear ( ) ;"), -107);
    Due.due(") alone", read("wear 1 ) ;"), -107);
    Due.due("( behind a number", read("wear 1 ( 2 ) ;"), -107);
    Due.due("and at once", read("wear and 1 ;"), -105);
    Due.due("or and nothing", read("wear 1 or ;"), -110);
    Due.due("the first fault", read("wear 1 1 ? 12345 ;"), -107);
  }

  private static void faultsOfTokens() {
    Due.due("a number of 4", read("wear 9999 ; mind 0000 ; want 0001 ;"), 1);
    Due.due("a number of 5", read("wear 10000 ;"), -105);
    Due.due("a number of 5 with noughts", read("wear 1 + 00001 ;"), -109);
    Due.due("a number of many", read("wear 4294967297 ;"), -105);
    Due.due("a word that is none", read("wear weight ;"), -105);
    Due.due("a word that is longer", read("wear kinds ;"), -105);
    Due.due("a word that is shorter", read("wear kin ;"), -105);
    Due.due("a word of all keys", read("wearmindwant ;"), -100);
    Due.due("a word where a sign is due", read("wear 1 orr 2 ;"), -107);
    Due.due("a word that is none in a bracket", read("wear (x) ;"), -106);
    Due.due("a word that is none behind -", read("wear - x 1 ;"), -107);
    Due.due("a word that is none behind not", read("wear not x 1 ;"), -109);
    Due.due("a word of six", read("wear hoursx ;"), -105);
    Due.due("a word and a number", read("wear kind2 ;"), -109);
    Due.due("a number and a word", read("wear 2kind ;"), -106);
    Due.due("a key and a number", read("wear1;mind2;want3;"), 1);
    Due.due("a great letter", read("Wear 1 ;"), -100);
    Due.due("a great letter in a word", read("wear kindD ;"), -109);
    Due.due("a tab", read("wear\t1 ;"), -104);
    Due.due("a return", read("wear 1 ;\r\n"), -108);
    Due.due("a nought", read("wear 1\0 ;"), -106);
    Due.due("a byte 255", read("wear 1 \u00ff ;"), -107);
    Due.due("a byte 128 + 32", read("wear 1 \u00a0 ;"), -107);
    for (char c : ">!/.:,_[]{}%&|~".toCharArray()) Due.due("a sign " + c, read("wear 1 " + c), -107);
    Due.due("a byte that begins none, behind the end", read("wear 1;mind 1;want 1;?"), -121);
  }

  /** What stood on the tape ahead doesn't matter. */
  private static void faultsOfTapes() {
    FortyBelts x = new FortyBelts();
    Due.due("a long word", Due.feed(x, "wear kindkindkind 12345678").text(), -105);
    Due.due("the beginning of it", Due.feed(x, "wear kind").text(), -109);
    Due.due("a long number", Due.feed(x, "wear 123456789").text(), -105);
    Due.due("the beginning of it", Due.feed(x, "wear 123").text(), -108);
    Due.due("a number at the tape's end", Due.feed(x, " ".repeat(154) + "wear 1").text(), -260);
    Due.due("a word at the tape's end", Due.feed(x, " ".repeat(151) + "wear kind").text(), -260);
    for (int i = 0; i < 5; i++) Due.feed(x, "wear 1" + "+1".repeat(70)).text();
    Due.due("a right text after many faults", Due.feed(x, "wear 1+2;mind 3+4;want 5+6;").text(), 1);
    FortyBelts y = Due.hall();
    for (int i = 0; i < 5; i++) Due.feed(y, "wear 1" + "+1".repeat(70)).text();
    Due.due("what it says", Due.rule(y, "1 + 2", "1", "1").told(0, 11), 3);
    String most = "wear 1" + "+1".repeat(66) + ";mind 1;want 1;";
    Due.due("a text of many values", Due.rule(Due.hall(), "1" + "+1".repeat(60), "1", "1").told(0, 11), 61);
    FortyBelts z = Due.feed(Due.hall(), most);
    z.force(z.text());
    Due.due("a text of most values", z.told(0, 11), 67);
  }

  private static void faultsOfDepth() {
    Due.due("5 (", read("wear (((((1))))) ; mind 1 ; want 1 ;"), 1);
    Due.due("6 (", read("wear ((((((1)))))) ;"), -110);
    Due.due("5 not", read("wear not not not not not 1 ; mind 1 ; want 1 ;"), 1);
    Due.due("6 not", read("wear not not not not not not 1 ;"), -125);
    Due.due("5 -", read("wear -----1 ; mind 1 ; want 1 ;"), 1);
    Due.due("6 -", read("wear ------1 ;"), -110);
    Due.due("6 of each", read("wear not(-(-(1"), -112);
    Due.due("5 of each", read("wear not(-(-1)) ; mind 1 ; want 1 ;"), 1);
    Due.due("- of a SUM is not of a ONE", read("wear (((((1-1-1))))) ; mind 1 ; want 1 ;"), 1);
    Due.due("- of a ONE in 5", read("wear (((((1--1"), -112);
    Due.due("closed ones", read("wear (1)+(2)*(3)-(4)+(5)<(6) ; mind ((1)+(2)) ; want 1 ;"), 1);
    Due.due("- ends with its ONE", read("wear -1+-1+-1+-1+-1+-1 ; mind 1 ; want 1 ;"), 1);
    Due.due("- ends ahead of *", read("wear ----1*-----1 ; mind 1 ; want 1 ;"), 1);
    Due.due("not ends ahead of and", read("wear not not not 1 and not not not not not 1 ; mind 1 ; want 1 ;"), 1);
    Due.due("not ends behind its <", read("wear not not not not not 1 < (2) ;"), -129);
    Due.due("a name at 5 deep", read("wear (-(-(kind))) ; mind 1 ; want 1 ;"), 1);
    Due.due("the part ends all", read("wear ((((1)))) ; mind (((((1))))) ; want -----1 ;"), 1);
  }

  /** What wear says of belt 0 of the hall: names are kind 0, turns 100, wrap 40, load 170, size 30, hours 10. */
  private static long wear(String e) {
    return Due.rule(Due.hall(), e, "1", "1").told(0, 11);
  }

  private static void valuesOfSigns() {
    String[] all = {
      "7", "7", "0007", "7", "(7)", "7", "2 + 3 * 4", "14", "(2 + 3) * 4", "20", "10 - 3 - 2", "5", "10 - (3 - 2)", "9", "- 2 * - 3", "6",
      "5 - - 3", "8", "- 3 + 5", "2", "-(3 - 5)", "2", "7 or 0", "1", "0 or 0", "0", "0 or 7", "1", "7 and 7", "1", "7 and 0", "0", "-1 and 1", "1",
      "1 or 0 and 0", "1", "(1 or 0) and 0", "0", "0 and 0 or 1", "1", "0 and (0 or 1)", "0", "not 0", "1", "not 7", "0", "not not 7", "1",
      "not 0 and 0", "0", "not (0 and 0)", "1", "not 1 or 1", "1", "not 2 < 1", "1", "(not 2) < 1", "1", "(not 2) + 5", "5", "not 1 = 1", "0",
      "1 < 2", "1", "2 < 2", "0", "2 < 1", "0", "-1 < 0", "1", "2 = 2", "1", "2 = 3", "0", "1 + 1 = 2", "1", "2 = 1 + 1", "1", "2 * 3 < 3 + 4", "1",
      "1 < 2 and 3 < 2", "0", "(1 < 2) + (3 < 4) + 5", "7", "1 < 2 = 1", "-", "0 or 0 or 5", "1", "3 and 2 and 1", "1", "6 - 2 * 3 + 1", "1",
      "kind + 1", "1", "turns", "100", "wrap", "40", "load", "170", "size", "30", "hours", "10", "load * hours", "1700",
      "9999 * 9999 * 22 < 0", "1", "9999 * 9999 * 43 - 9999 * 419 < 0", "1", "9999 * 9999 * 43 < 0", "0", "0 - 9999 * 9999 * 22 < 0", "0",
    };
    for (int i = 0; i < all.length; i += 2) {
      if (!all[i + 1].equals("-")) Due.due("wear " + all[i], wear(all[i]), Long.parseLong(all[i + 1]));
    }
    Due.due("wrapping", wear("9999 * 9999 * 43 - 4000 * 1000 - 172 * 1000 - 700"), 47);
  }

  private static void valuesBound() {
    Due.due("most", wear("9999"), 9999);
    Due.due("above the most", wear("9999 + 1"), 9999);
    Due.due("least", wear("0"), 0);
    Due.due("below the least", wear("0 - 1"), 0);
    FortyBelts x = Due.rule(Due.hall(), "1", "1", "size - 50");
    Due.due("want, the least", x.cut(2, 2), 1);
    FortyBelts y = Due.rule(Due.hall(), "1", "1", "9999");
    Due.due("want, the most", y.cut(2, 2), 999);
    FortyBelts z = Due.rule(Due.hall(), "1", "1", "999 + (size < 5)");
    z.set(3, 2, 0);
    Due.due("want, bound ahead of what costs least", z.cut(2, 0), 1);
    FortyBelts m = Due.rule(Due.hall(), "1", "0 - 5", "1");
    m.engine(1, 1);
    Due.due("mind, any but 0 is true", m.bite(1, 0), 12);
  }

  private static void namesOfWear() {
    String[] names = {"kind", "turns", "wrap", "load", "size", "hours"};
    int[][] want = {{0, 100, 40, 170, 30, 10}, {1, 200, 55, 30, 45, 10}, {3, 200, 47, 40, 13, 6}};
    int[][] wantOff = {{0, 100, 40, 0, 30, 0}, {1, 0, 55, 0, 45, 0}, {3, 0, 47, 0, 13, 0}};
    for (int n = 0; n < names.length; n++) {
      FortyBelts x = Due.rule(Due.hall(), names[n], "1", "1");
      for (int b = 0; b < 3; b++) Due.due("wear " + names[n] + " of " + b, x.told(b, 11), want[b][n]);
      for (int b = 0; b < 3; b++) x.throwsOn(b, 0);
      for (int b = 0; b < 3; b++) Due.due("wear " + names[n] + " of " + b + ", off", x.told(b, 11), wantOff[b][n]);
    }
    FortyBelts x = Due.rule(Due.hall(), "turns", "1", "1");
    x.engine(0, 7);
    x.change(0, 1, 3);
    Due.due("turns are cut", x.told(1, 11), 4);
  }

  /** Whether machine 2 of the hall minds: turns 100, of which it loses 50 when half of what is loaded is too much. */
  private static void namesOfMind() {
    String[] minds = {"kind = 0", "turns = 100", "wrap = 50", "load = 30", "size = 0", "hours = 10"};
    for (String mind : minds) {
      FortyBelts x = Due.rule(Due.hall(), "1", mind, "1");
      x.engine(1, 100);
      Due.due("mind " + mind, x.bite(1, 15) >> 2 & 1, 1);
    }
    for (String name : new String[] {"kind", "size"}) {
      FortyBelts after = Due.rule(Due.hall(), "1", name, "1");
      after.engine(1, 1);
      after.told(2, 11);
      Due.due("mind " + name + ", after wear", after.bite(1, 9), 0);
    }
    FortyBelts x = Due.rule(Due.hall(), "1", "wrap = 33", "1");
    x.engine(1, 113);
    Due.due("how much they fall, cut", x.bite(1, 0), 4);
  }

  private static void namesOfWant() {
    String[] names = {"kind", "turns", "wrap", "load", "hours"};
    for (String name : names) {
      FortyBelts x = Due.rule(Due.hall(), "1", "1", "100 + " + name);
      x.told(0, 11);
      Due.due("want " + name, x.cut(0, 2), 100);
    }
    Due.due("want size", Due.rule(Due.hall(), "1", "1", "size * 2").cut(2, 2), 10);
  }

  private static void ruleForced() {
    Due.promise(15);
    FortyBelts x = Due.hall();
    Due.feed(x, "wear 5; mind 0; want 6;").text();
    Due.feed(x, "wear 7; mind 0; want 8;").text();
    Due.due("a text alone rules not", x.told(0, 11), 1700);
    Due.due("force", x.force(2), 0);
    Due.due("told", x.told(0, 11), 7);
    Due.due("cost", x.cut(0, 2), 8);
    Due.due("force", x.force(1), 2);
    Due.due("told", x.told(0, 11), 5);
    Due.due("force, the same", x.force(1), 1);
    Due.due("force", x.force(0), 1);
    Due.due("told", x.told(0, 11), 1700);
    for (int text : new int[] {-1, 1, 6, Integer.MIN_VALUE}) Due.still("force(" + text + ")", Due::busy, y -> y.force(text), -2);
  }
}
