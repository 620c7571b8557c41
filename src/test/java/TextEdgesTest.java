/** The edges that the words of promises 13 to 15 name, and Terms for them: the tape, texts, the rule. */
public final class TextEdgesTest {
  private static final int LEAST = Integer.MIN_VALUE, MOST = Integer.MAX_VALUE;
  private static final int BAD = -2, FULL = -4;
  private static final int TAPE = 160, MOST_OPEN = 5;
  private static final String[] NAMES = {"kind", "turns", "wrap", "load", "size", "hours"};
  private static final String[] KEYS = {"wear", "mind", "want", "or", "and", "not"};
  private static final String REST = " ; mind 1 ; want 1 ;";

  public static void main(String[] args) {
    Edges.run(TextEdgesTest.class, 13, 15);
  }

  /** What text() answers to that tape. */
  private static int read(String tape) {
    FortyBelts x = Due.feed(new FortyBelts(), tape);
    Due.due("bytes of " + tape, x.count(5), tape.length());
    int answer = x.text();
    Due.due("bytes after " + tape, x.count(5), 0);
    Due.due("texts after " + tape, x.count(4), answer > 0 ? 2 : 1);
    return answer;
  }

  private static void right(String tape) {
    Due.due("the tape " + tape, read(tape), 1);
  }

  private static void fault(int place, String tape) {
    Due.due("the tape " + tape, read(tape), -100 - place);
  }

  // ---- promise 13

  static void promise13_aCallFeeds1To8() {
    int sum = 0;
    FortyBelts x = new FortyBelts();
    for (int n = 1; n <= 8; n++) {
      sum += n;
      Due.answers(x, sum, "feed", n, -1);
    }
    for (int n : new int[] {0, 9, -1, LEAST, MOST}) Due.refusedAnywhere(BAD, "feed", n, 0);
  }

  static void promise13_theLowestFirst() {
    FortyBelts x = Due.hall();
    Due.answers(x, 4, "feed", 4, 'w' | 'e' << 8 | 'a' << 16 | 'r' << 24);
    Due.answers(x, 12, "feed", 8, '4' | '2' << 8 | ';' << 16 | 'm' << 24 | (long) 'i' << 32 | (long) 'n' << 40 | (long) 'd' << 48 | (long) '1' << 56);
    Due.feed(x, ";want 1;");
    x.force(x.text());
    Due.answers(x, 42, "told", 0, 11);
  }

  static void promise13_theHigherOnesAreLeftOut() {
    FortyBelts x = Due.hall();
    for (char c : ("wear 42" + REST).toCharArray()) x.feed(1, c | 0x5a5a5a5a5a5a5a00L);
    x.force(x.text());
    Due.answers(x, 42, "told", 0, 11);
    FortyBelts y = Due.hall();
    for (char c : ("wear 43" + REST).toCharArray()) y.feed(1, c | -256L);
    y.force(y.text());
    Due.answers(y, 43, "told", 0, 11);
  }

  private static FortyBelts fedTo(int bytes) {
    return Due.feed(new FortyBelts(), "w".repeat(bytes));
  }

  static void promise13_160BytesAtMost() {
    for (int n = 1; n <= 8; n++) {
      int room = n;
      Due.answers(fedTo(TAPE - n), TAPE, "feed", n, 0);
      if (n < 8) Due.refused(() -> fedTo(TAPE - room), FULL, "feed", n + 1, 0);
    }
    Due.refused(() -> fedTo(TAPE), FULL, "feed", 1, 0);
    Due.refused(() -> fedTo(TAPE), FULL, "feed", 8, -1);
    Due.refused(Due::full, FULL, "feed", 1, ' ');
  }

  /** What comes behind a refused call stands where it would have stood without it. */
  static void promise13_aRefusedCallFeedsNothing() {
    String most = "wear 42" + REST;
    FortyBelts x = Due.feed(Due.hall(), most + " ".repeat(TAPE - 1 - most.length()));
    Due.answers(x, FULL, "feed", 2, '?' | '?' << 8);
    Due.answers(x, BAD, "feed", 0, '?');
    Due.answers(x, BAD, "feed", 9, '?');
    Due.answers(x, TAPE, "feed", 1, ' ');
    Due.answers(x, 1, "text");
    x.force(1);
    Due.answers(x, 42, "told", 0, 11);
  }

  static void promise13_badIsAheadOfFull() {
    for (int n : new int[] {0, 9, LEAST, MOST}) Due.refused(() -> fedTo(TAPE), BAD, "feed", n, 0);
  }

  static void promise13_itHasRoomAgainAfterAText() {
    FortyBelts x = fedTo(TAPE);
    Due.answers(x, -100, "text");
    Due.answers(x, 8, "feed", 8, 0);
    Due.answers(x, 9, "feed", 1, 0);
  }

  // ---- promise 14

  static void promise14_anEmptyTape() {
    Due.refused(FortyBelts::new, -100, "text");
    Due.refused(Due::hall, -100, "text");
  }

  static void promise14_blanksAlone() {
    for (int n : new int[] {1, 2, 7, TAPE}) fault(n, " ".repeat(n));
    fault(3, " \n ");
  }

  static void promise14_sixAtMostAndText0WithThem() {
    FortyBelts x = new FortyBelts();
    Due.answers(x, 1, "count", 4);
    for (int i = 1; i < 6; i++) {
      Due.feed(x, "wear " + i + REST);
      Due.answers(x, i, "text");
      Due.answers(x, i + 1, "count", 4);
    }
    Due.feed(x, "wear 6" + REST);
    Due.answers(x, FULL, "text");
    Due.answers(x, 6, "count", 4);
  }

  private static FortyBelts sixTexts(String tape) {
    FortyBelts x = Due.hall();
    for (int i = 1; i < 6; i++) Due.feed(x, "wear " + i + REST).text();
    return Due.feed(x, tape);
  }

  static void promise14_fullIsAheadOfAllAndTheTapeStays() {
    for (String tape : new String[] {"", " ", "?", "wear", "wear 1" + REST, "w".repeat(TAPE)}) {
      Due.refused(() -> sixTexts(tape), FULL, "text");
      FortyBelts x = sixTexts(tape);
      Due.answers(x, FULL, "text");
      Due.answers(x, tape.length(), "count", 5);
    }
    Due.refused(Due::full, FULL, "text");
  }

  static void promise14_theTapeIsEmptyThen() {
    FortyBelts x = Due.feed(new FortyBelts(), "wear 1" + REST);
    Due.answers(x, 1, "text");
    Due.answers(x, 0, "count", 5);
    Due.answers(x, -100, "text");
    Due.feed(x, "wear ?");
    Due.answers(x, -105, "text");
    Due.answers(x, 0, "count", 5);
    Due.answers(x, -100, "text");
  }

  /** A text that is not read takes no number, no text's room and no place of the rule. */
  static void promise14_aFaultChangesNothingElse() {
    FortyBelts x = Due.hall();
    Due.feed(x, "wear 5" + REST);
    Due.answers(x, 1, "text");
    x.force(1);
    for (int i = 0; i < 9; i++) {
      Due.feed(x, "wear 7 ; mind 1 ; want 1 ?");
      Due.answers(x, -125, "text");
    }
    Due.answers(x, 2, "count", 4);
    Due.answers(x, 1, "count", 6);
    Due.answers(x, 5, "told", 0, 11);
    Due.feed(x, "wear 6" + REST);
    Due.answers(x, 2, "text");
    Due.answers(x, 5, "told", 0, 11);
    x.force(2);
    Due.answers(x, 6, "told", 0, 11);
  }

  static void promise14_aTextOf160Bytes() {
    String text = "wear 1;mind 1;want 1;";
    right(" ".repeat(TAPE - text.length()) + text);
    right(text + " ".repeat(TAPE - text.length()));
    right(text + "\n".repeat(TAPE - text.length()));
    String longest = "wear 1" + "+1".repeat((TAPE - text.length()) / 2) + text.substring(6);
    right(longest + " ".repeat(TAPE - longest.length()));
    fault(159, " ".repeat(TAPE - text.length()) + text.substring(0, 20) + "?");
    fault(160, " ".repeat(TAPE - text.length() + 1) + text.substring(0, 20));
    fault(160, "wear 1" + "+1".repeat(77));
    fault(160, "wear " + "1+".repeat(77) + "1");
    fault(160, "wear 1" + "+1".repeat(76) + "+ ");
  }

  /** Each text that a right one begins with ends too early, or in the midst of a word. */
  static void promise14_aTextThatEndsTooEarly() {
    String text = "wear kind+1*turns ;\nmind not(2<wrap)or 5 ; want - size*12 and(hours=(0));";
    right(text);
    for (int size = 0; size < text.length(); size++) {
      int word = size;
      boolean inWord = size > 0 && isLetter(text.charAt(size - 1)) && isLetter(text.charAt(size));
      while (inWord && word > 0 && isLetter(text.charAt(word - 1))) word--;
      fault(word, text.substring(0, size));
      if (!inWord) fault(size + 3, text.substring(0, size) + "\n  ");
    }
  }

  /** Behind the last ; nothing can stand. */
  static void promise14_aTextThatEndsTooLate() {
    String text = "wear 1;mind 1;want 1;";
    right(text + " \n");
    for (String more : new String[] {";", "wear", "1", "kind", "(", ")", "-", "?", "12345", "weight", "not"}) {
      fault(21, text + more);
      fault(23, text + " \n" + more + " ");
    }
  }

  private static boolean isLetter(int c) {
    return 'a' <= c && c <= 'z';
  }

  private static boolean isDigit(int c) {
    return '0' <= c && c <= '9';
  }

  private static boolean isBlank(int c) {
    return c == 32 || c == 10;
  }

  static void promise14_eachByteFirst() {
    for (int c = 0; c < 256; c++) {
      String tape = (char) c + "wear 1" + REST;
      if (isBlank(c)) right(tape);
      else fault(0, tape);
    }
  }

  static void promise14_eachByteForAnE() {
    for (int c = 0; c < 256; c++) {
      String tape = "wear " + (char) c + REST;
      if (isDigit(c)) right(tape);
      else if (isBlank(c) || c == '(' || c == '-') fault(7, tape);
      else fault(5, tape);
    }
  }

  static void promise14_eachByteBehindANumber() {
    for (int c = 0; c < 256; c++) {
      String tape = "wear 1" + (char) c + REST;
      if (isDigit(c) || isBlank(c)) right(tape);
      else if ("+-*<=;".indexOf(c) >= 0) fault(8, tape);
      else fault(6, tape);
    }
  }

  static void promise14_eachByteBehindAName() {
    for (int c = 0; c < 256; c++) {
      String tape = "wear size" + (char) c + REST;
      if (isBlank(c)) right(tape);
      else if (isLetter(c)) fault(5, tape);
      else if ("+-*<=;".indexOf(c) >= 0) fault(11, tape);
      else fault(9, tape);
    }
  }

  static void promise14_eachByteLast() {
    for (int c = 0; c < 256; c++) {
      String tape = "wear 1" + REST + (char) c;
      if (isBlank(c)) right(tape);
      else fault(26, tape);
    }
  }

  static void promise14_aNumberHas4DigitsAtMost() {
    for (String number : new String[] {"0", "9", "10", "999", "1000", "9999", "0000", "0009"}) {
      right("wear " + number + REST);
      right("wear 1;mind 1;want kind+" + number + ";");
    }
    for (String number : new String[] {"10000", "00000", "00001", "99999", "123456", "4294967297", "9".repeat(100)}) {
      fault(5, "wear " + number + REST);
      fault(9, "wear 1 + " + number + REST);
      fault(7, "wear 1 " + number + REST);
      fault(0, number);
    }
    fault(10, "wear 1234 5" + REST);
  }

  static void promise14_aWordIsAKeyOrAName() {
    for (String name : NAMES) right("wear " + name + REST);
    for (String key : KEYS) fault(key.equals("not") ? 9 : 5, "wear " + key + REST);
    for (String[] words : new String[][] {NAMES, KEYS}) {
      for (String word : words) {
        fault(5, "wear " + word.substring(0, word.length() - 1) + REST);
        fault(5, "wear " + word.substring(1) + REST);
        fault(5, "wear " + word + word.charAt(word.length() - 1) + REST);
        fault(5, "wear " + word + "s" + REST);
        fault(5, "wear " + word + word + REST);
        fault(5, "wear " + word.toUpperCase() + REST);
      }
    }
    fault(5, "wear " + "x".repeat(100) + REST);
    fault(0, "wearkind" + REST);
  }

  static void promise14_tokensAreAsLongAsCanBe() {
    right("wear1;mind1;want1;");
    right("wear(kind)or(turns)and not(wrap);mind-load;want-size;");
    right("wear 1or 2and 3;mind 1;want 1;");
    right("wear 1or2and3;mind 1;want 1;");
    fault(6, "wear 1orr2" + REST);
    fault(6, "wear 1kind" + REST);
    fault(9, "wear kind1" + REST);
    fault(5, "wear kindturns" + REST);
    fault(0, "wearnot 1" + REST);
    fault(5, "wear notnot 1" + REST);
    fault(8, "wear 12 12" + REST);
  }

  static void promise14_threePartsInTheirOrder() {
    String[] parts = {"wear 1;", "mind 1;", "want 1;"};
    for (int a = 0; a < 3; a++) {
      for (int b = 0; b < 3; b++) {
        for (int c = 0; c < 3; c++) {
          String tape = parts[a] + parts[b] + parts[c];
          if (a == 0 && b == 1 && c == 2) right(tape);
          else fault(a != 0 ? 0 : b != 1 ? 7 : 14, tape);
        }
      }
    }
    fault(5, "wear ;");
    fault(5, "wear mind 1;");
    fault(7, "wear 1 mind 1;");
  }

  static void promise14_ofASumAloneOnce() {
    for (char sign : new char[] {'<', '='}) {
      right("wear 1" + sign + "2" + REST);
      right("wear not 1" + sign + "2 and 3" + sign + "4 or 5" + sign + "6" + REST);
      right("wear (1" + sign + "2)" + sign + "(3" + sign + "4)" + REST);
      right("wear 1+2" + sign + "3*4-5" + REST);
      for (char second : new char[] {'<', '='}) fault(8, "wear 1" + sign + "2" + second + "3" + REST);
      fault(5, "wear " + sign + "2" + REST);
      fault(7, "wear 1" + sign + sign + "2" + REST);
      fault(8, "wear 1" + sign + REST);
      fault(8, "wear 1" + sign + " not 2" + REST);
    }
    fault(9, "wear 1 + not 2" + REST);
    fault(7, "wear - not 2" + REST);
    fault(9, "wear 1 * not 2" + REST);
  }

  /** All that can open, one in another: a ( and a - everywhere, a not where a NOT may stand. */
  private static void open(int depth, String opened, String closing, boolean isNotDue) {
    if (depth == MOST_OPEN) {
      right("wear " + opened + "1" + closing + REST);
      right("wear " + opened + "1" + closing + " or " + opened + "1" + closing + REST);
      int place = 5 + opened.length();
      fault(place, "wear " + opened + "(1)" + closing + REST);
      fault(place, "wear " + opened + "-1" + closing + REST);
      fault(place, "wear " + opened + "not 1" + closing + REST);
      return;
    }
    open(depth + 1, opened + "(", ")" + closing, true);
    open(depth + 1, opened + "-", closing, false);
    if (isNotDue) open(depth + 1, opened + "not ", closing, true);
  }

  static void promise14_fiveAreOpenAtMost() {
    open(0, "", "", true);
  }

  static void promise14_aBracketHasAnEIn() {
    fault(7, "wear ( ) ; mind 1 ; want 1 ;");
    fault(8, "wear (1 ; mind 1 ; want 1 ;");
    fault(8, "wear (1 2) ; mind 1 ; want 1 ;");
    fault(7, "wear (1(2)) ; mind 1 ; want 1 ;");
    fault(11, "wear ((1 ) ; mind 1 ; want 1 ;");
    fault(8, "wear (1)) ; mind 1 ; want 1 ;");
    fault(5, "wear )1( ; mind 1 ; want 1 ;");
    fault(8, "wear (1 mind 1 ; want 1 ;");
    right("wear (1 or 2 and not 3 < 4 + 5 * -6) ; mind (1) ; want ((1)) ;");
  }

  /** Ones that are closed leave their room to others. */
  static void promise14_aBracketIsOpenTillItsEnd() {
    right("wear (((((1)))))*(((((2)))))" + REST);
    right("wear ((((1)+(2))*(3))-(4))<((((5))))" + REST);
    fault(14, "wear ((((1)+(((2" + REST);
    right("wear ((((1)+(2)))) ;mind (((((1))))) ; want (((((1))))) ;");
    fault(12, "wear (((((1+(2" + REST);
    right("wear (((((1)+2)+3)+4)+5)" + REST);
  }

  static void promise14_aMinusOfOneIsOpenTillItsOneEnds() {
    right("wear -----1------1" + REST);
    fault(17, "wear -----1-------1" + REST);
    right("wear -----1*-----2+-----3" + REST);
    right("wear ----(1)-----(2)" + REST);
    fault(10, "wear -----(1)" + REST);
    fault(13, "wear (-1+(-(-(-1))))" + REST);
    right("wear (-1+(-(-1)))" + REST);
  }

  static void promise14_aMinusOfASumIsNotOpen() {
    right("wear (((((1-2-3-4-5-6-7)))))" + REST);
    fault(12, "wear (((((1--2)))))" + REST);
  }

  static void promise14_aNotIsOpenTillWhatBelongsToItEnds() {
    right("wear not not not not not 1<2 and not not not not not 3=4 or not not not not not 5" + REST);
    fault(29, "wear not not not not not 1 < (2)" + REST);
    fault(29, "wear not not not not not 1 + -2" + REST);
    right("wear not not not not (1) < -2" + REST);
    right("wear not not not not 1 and (((((2)))))" + REST);
  }

  /** The first one counts, whatever stands behind it. */
  static void promise14_theFirstFault() {
    fault(7, "wear 1 1 ? 12345 weight");
    fault(7, "wear 1 ? 1 12345 weight");
    fault(7, "wear 1 12345 ? weight");
    fault(7, "wear 1 weight ? 12345");
    fault(5, "wear ) ((((((1");
  }

  // ---- what a text says

  /** What wear says of belt 0 of the hall by such a text. */
  private static void says(int want, String e) {
    Due.due("wear " + e, Due.rule(Due.hall(), e, "1", "1").told(0, 11), want);
  }

  static void promise14_anEIs32BitsWrapping() {
    says(1, "8192*8192*32<0");
    says(0, "8192*8192*32-1<0");
    says(1, "8192*8192*32-1+1<0");
    says(1, "-(8192*8192*32)<0");
    says(1, "-(8192*8192*32)=8192*8192*32");
    says(0, "8192*8192*64");
    says(1, "8192*8192*64+1");
    says(1, "0-8192*8192*32-1=8192*8192*32-1");
    says(1, "8192*8192*32-1-(0-1)<0");
    says(1, "8192*8192*32<8192*8192*32-1");
    says(7, "8192*8192*8192+7");
  }

  static void promise14_whatIsNot0IsTrue() {
    String[] trues = {"1", "2", "(0-1)", "9999", "(8192*8192*32)"};
    for (String t : trues) {
      says(0, "not " + t);
      says(1, "0 or " + t);
      says(1, t + " or 0");
      says(1, "1 and " + t);
      says(1, t + " and 1");
      says(0, "0 and " + t);
      says(0, t + " and 0");
    }
    says(1, "not 0");
    says(1, "not (8192*8192*64)");
    says(0, "0 or 0");
    says(2, "2");
    says(0, "0 - 2");
  }

  static void promise14_lessAndLike() {
    says(0, "1 < 1");
    says(1, "1 < 2");
    says(0, "2 < 1");
    says(1, "1 = 1");
    says(0, "1 = 2");
    says(1, "0 - 1 < 0");
    says(1, "0 = 0 - 0");
    says(5, "5");
    says(8, "5 + (1 < 2) + (1 = 1) + (not 0)");
  }

  static void promise14_orAndNotLessAndLikeAre1Or0() {
    for (String is : new String[] {"not 0", "7 or 0", "0 or 7", "7 or 7", "7 and 8", "7 < 8", "7 = 7", "not not 7"}) {
      says(6, "5 + (" + is + ")");
      says(4, "5 - (" + is + ")");
    }
    for (String isNot : new String[] {"not 7", "0 or 0", "0 and 7", "7 and 0", "0 and 0", "8 < 7", "7 < 7", "7 = 8", "not not 0"}) {
      says(5, "5 + (" + isNot + ")");
      says(5, "5 - (" + isNot + ")");
    }
  }

  static void promise14_whatWantSaysIs1To999() {
    String[] says = {"0 - 1", "0", "1", "2", "998", "999", "999 + 1", "9999 * 9999", "- 9999 * 9999"};
    int[] want = {1, 1, 1, 2, 998, 999, 999, 999, 1};
    for (int i = 0; i < says.length; i++) Due.due("want " + says[i], Due.rule(Due.hall(), "1", "1", says[i]).cut(0, 2), want[i]);
  }

  static void promise14_whatMindSaysIsTrueOrNot() {
    String[] says = {"0", "1", "2", "0 - 1", "9999 * 9999", "8192*8192*64"};
    int[] want = {0, 12, 12, 12, 12, 0};
    for (int i = 0; i < says.length; i++) {
      FortyBelts x = Due.rule(Due.hall(), "1", says[i], "1");
      x.engine(1, 1);
      Due.due("mind " + says[i], x.bite(1, 0), want[i]);
    }
  }

  /** The first rule minds a fall of 6, not one of 5, and says load times hours, and a size and 3. */
  static void promise14_text0() {
    FortyBelts x = Due.shafts(2);
    Due.sizes(x, 10, 10);
    x.belt(0, 1, 1, 999);
    x.machine(1, 500, 9999, 3);
    x.machine(0, 450, 9999, 3);
    Due.answers(x, 1500, "told", 0, 11);
    Due.answers(x, 1 + 3, "cut", 0, 2);
    // 1063 loaded, 63 above the power: of 100 turns 5.9; 1064: 6.01.
    Due.answers(x, 0, "bite", 1, 113);
    Due.answers(x, 1, "bite", 1, 114);
  }

  /** Drums of sizes 1 and 1, 99 and 99; 24 hours of machines that are on, none of those that are off or on no belt. */
  static void promise14_namesOfWearAtTheirEdges() {
    for (int kind = 0; kind < 6; kind++) {
      FortyBelts x = Due.rule(Due.shafts(2), "kind*1000+size*10+(hours=24)*5+(wrap=10)*2", "1", "1");
      Due.sizes(x, 1, 1, 99, 99);
      x.belt(kind, 1, 1, 9);
      x.machine(0, 1, 9999, 24);
      Due.answers(x, 1000 * kind + 20, "told", 0, 11);
      x.machine(1, 0, 9999, 24);
      x.machine(1, 0, 9999, 0);
      x.change(0, 0, 2);
      Due.answers(x, 1000 * kind + 1000 + 5 + (kind % 3 == 0 ? 2 : 0), "told", 0, 11);
      x.change(0, 1, 3);
      x.set(1, 2, 0);
      Due.answers(x, Math.min(9999, 1000 * kind + 1980), "told", 0, 11);
    }
  }

  static void promise14_turnsInATextAreCut() {
    FortyBelts x = Due.rule(Due.shafts(4), "(turns = 1000 * 1000) * 100 + (turns = 999 * 1001) * 10 + turns * (turns < 1000)", "1", "1");
    Due.sizes(x, 99, 1, 77, 1, 13, 1);
    x.belt(0, 1, 203, 9);
    x.belt(0, 12, 405, 9);
    x.belt(0, 23, 1, 9);
    Due.answers(x, 100, "told", 0, 11);
    x.engine(0, 999);
    Due.answers(x, 10, "told", 2, 11);
    x.change(0, 0, 0);
    Due.answers(x, 100, "told", 2, 11);
    x.throwsOn(0, 0);
    Due.answers(x, 0, "told", 2, 11);
    x.engine(0, 1);
    Due.answers(x, 1, "told", 0, 11);
  }

  // ---- promise 15

  static void promise15_aTextThatIsThere() {
    FortyBelts x = Due.full();
    Due.answers(x, 3, "force", 0);
    Due.answers(x, 0, "force", 5);
    Due.answers(x, 5, "count", 6);
    Due.answers(x, 5, "told", 0, 11);
    for (int text : new int[] {-1, 6, LEAST, MOST}) Due.refusedAnywhere(BAD, "force", text);
  }

  static void promise15_noneButText0Yet() {
    Due.answers(new FortyBelts(), 0, "force", 0);
    for (int text = 1; text < 6; text++) Due.refused(FortyBelts::new, BAD, "force", text);
  }

  static void promise15_oneThatHadAFaultIsNone() {
    FortyBelts x = Due.hall();
    Due.feed(x, "wear 7;mind 1;want 1;;").text();
    Due.answers(x, BAD, "force", 1);
    Due.answers(x, 1700, "told", 0, 11);
    Due.answers(x, 0, "count", 6);
  }

  static void promise15_theSameAgain() {
    Due.still("force(3)", Due::full, x -> x.force(3), 3);
    Due.still("force(0)", Due::busy, x -> x.force(0), 0);
  }
}
