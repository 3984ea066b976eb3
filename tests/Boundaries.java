import java.math.BigInteger;
import java.nio.file.Files;
import java.nio.file.Path;
import java.util.ArrayList;
import java.util.Arrays;
import java.util.List;
import java.util.NoSuchElementException;
import java.util.function.Consumer;
import java.util.function.Supplier;
import java.util.function.ToLongBiFunction;
import java.util.function.ToLongFunction;

/**
 * For each sentence of the document that names a boundary case a test of its own: the place (a section of the Terms
 * by its number, a promise by P and its number), the words, and what must be so. The words must stand in the document,
 * and what a promise says of refusals must be told by some test, word by word (where the document can be read).
 */
public final class Boundaries {
  private static final int NO = LeapJoin.NONE;
  private static final int HID = LeapJoin.HIDDEN;
  private static final int MIN = Integer.MIN_VALUE;
  private static final int MAX = Integer.MAX_VALUE;

  private interface Test { void run(); }
  private static final class Case {
    final String place;
    final String words;
    final Test test;
    Case(String place, String words, Test test) { this.place = place; this.words = words; this.test = test; }
  }

  private static final List<Case> CASES = new ArrayList<>();
  private static final List<String> FAILURES = new ArrayList<>();
  private static String now = "";
  private static int checks = 0;

  private static void of(String place, String words, Test test) { CASES.add(new Case(place, words, test)); }

  // ---- what is due

  private static void due(String call, long got, long want) {
    checks++;
    if (got != want) FAILURES.add(now + ": " + call + " answered " + got + ", due is " + want);
  }
  private static void due(String call, boolean got, boolean want) { due(call, got ? 1 : 0, want ? 1 : 0); }
  private static void alike(String call, String got, String want) {
    checks++;
    if (!got.equals(want)) FAILURES.add(now + ": " + call + " left\n    " + got + "\n  due is\n    " + want);
  }

  /** Feeds a text, twenty signs a call. */
  private static void feed(LeapJoin x, String text) {
    for (int i = 0; i < text.length(); i += 20) {
      int[] w = new int[5];
      for (int k = 0; k < 20 && i + k < text.length(); k++) w[k / 4] |= (text.charAt(i + k) & 255) << 24 - 8 * (k % 4);
      x.feed(w[0], w[1], w[2], w[3], w[4]);
    }
  }
  private static LeapJoin fed(String text) { LeapJoin x = new LeapJoin(); feed(x, text); return x; }
  private static LeapJoin told(String tables) { LeapJoin x = new LeapJoin(); tell(x, tables); return x; }
  private static void tell(LeapJoin x, String tables) { feed(x, tables); due("text(0) of " + tables, x.text(0) > 0, true); }
  private static void script(LeapJoin x, String steps) { feed(x, steps); due("text(1) of " + steps, x.text(1) >= 0, true); }
  private static LeapJoin scripted(String tables, String... scripts) {
    LeapJoin x = new LeapJoin();
    for (String s : scripts) script(x, s);
    if (!tables.isEmpty()) tell(x, tables);
    return x;
  }

  /** The text has that fault (-1: none), and is told or not accordingly. */
  private static void fault(int sort, String text, int want) {
    LeapJoin x = fed(text);
    due("fault(" + sort + ") of \"" + text + "\"", x.fault(sort), want);
    due("text(" + sort + ") of \"" + text + "\" is told", x.text(sort) != NO, want == NO);
    due("the tape behind text(" + sort + ") of \"" + text + "\"", x.count(2), want == NO ? 0 : text.length());
  }

  private static String rows(int many) {
    StringBuilder s = new StringBuilder();
    for (int i = 0; i < many; i++) s.append(i > 0 ? "/" : "").append(i);
    return s.toString();
  }
  private static String times(int many, String part, String between) {
    StringBuilder s = new StringBuilder();
    for (int i = 0; i < many; i++) s.append(i > 0 ? between : "").append(part);
    return s.toString();
  }

  private static int thrown(LeapJoin x, int table, int what) {
    try { x.table(table, what); return 0; } catch (NoSuchElementException e) { return 1; }
  }

  /** All that can be seen but STATUS; the object is of no use then. */
  private static String seen(LeapJoin x) {
    StringBuilder s = new StringBuilder("counts");
    for (int w = 0; w < 5; w++) s.append(' ').append(x.count(w)).append(' ').append(x.rule(w));
    s.append(" tape ").append(x.fault(0)).append(' ').append(x.fault(1));
    s.append(" join ").append(x.rows()).append(' ').append(x.leaps());
    for (int i = 0; i < 4; i++) for (int k = 0; k < 4; k++) s.append(' ').append(x.row(i, k));
    int tables = x.count(0);
    for (int t = 0; t < tables; t++) {
      s.append(" table");
      int width = x.table(t, 0);
      int size = x.table(t, 2);
      s.append(' ').append(width).append(' ').append(x.table(t, 1)).append(' ').append(size).append(' ').append(x.table(t, 3));
      for (int i = 0; i < size; i++) for (int k = 0; k < width; k++) s.append(' ').append(x.cell(t, i, k));
    }
    s.append(" log");
    for (int i = 0; i < 6; i++) for (int w = 0; w < 3; w++) s.append(' ').append(x.log(i, w));
    s.append(" scripts");
    for (int n = 0; n < 2; n++) for (int i = 0; i < 3; i++) for (int w = 0; w < 5; w++) s.append(' ').append(x.step(n, i, w));
    s.append(" undone");
    for (int n = x.undo(); n != NO; n = x.undo()) s.append(' ').append(n).append(' ').append(x.rule(1)).append(' ').append(x.rule(2)).append(' ').append(x.rule(4));
    s.append(" back ").append(x.back()).append(' ').append(x.rule(1)).append(' ').append(x.rule(2)).append(' ').append(x.rule(4)).append(' ').append(x.count(3));
    return s.toString();
  }

  /** The call answers that, counts so in STATUS (-1: not at all), and changes nothing else. */
  private static void refused(Supplier<LeapJoin> make, String call, ToLongFunction<LeapJoin> f, long answer, int status) {
    LeapJoin x = make.get();
    LeapJoin y = make.get();
    due(call, f.applyAsLong(x), answer);
    for (int k = 0; k < 4; k++) due("status(" + k + ") behind " + call, x.status(k), y.status(k) + (k == status ? 1 : 0));
    alike(call, seen(x), seen(y));
  }
  private static void refused(Supplier<LeapJoin> make, String call, ToLongFunction<LeapJoin> f, long answer) { refused(make, call, f, answer, -1); }

  /** An object in the midst of things: acts that can be undone, an image, a script, a tape. a b c are asked, 2 rows. */
  private static LeapJoin busy() {
    LeapJoin x = told("ab:1,2/1,3/2,3;bc:2,5/3,4/3,5;ca:5,1/4,1;d:7");
    script(x, "p0:4,4;u1");
    x.use(3);
    x.put(0, 2, 2, NO);
    x.order(6);
    x.image();
    x.take(1, 3, 4, NO);
    x.order(8);
    feed(x, "a:1/2");
    return x;
  }
  private static LeapJoin made() { return new LeapJoin(); }
  private static LeapJoin full() { LeapJoin x = told("a:" + rows(12) + ";b:1"); x.order(3); return x; }
  private static LeapJoin empty() { LeapJoin x = told("ab:;b:1/2"); x.order(1); return x; }

  // ---- the Terms, section 1: texts

  private static void textsOfTables() {
    of("1", "one for each TABLE (1 to 4, numbered as they come)", () -> {
      fault(0, "", 0);
      fault(0, "a:", NO);
      fault(0, "a:;b:;c:;d:", NO);
      fault(0, "a:;b:;c:;d:;a:", 11);
      LeapJoin x = told("a:1;b:1/2;c:1/2/3;d:");
      for (int t = 0; t < 4; t++) { due("letters of " + t, x.table(t, 1), 1 << t); due("rows of " + t, x.table(t, 2), (t + 1) % 4); }
      due("tables", x.count(0), 4);
      due("one table", told("c:1").count(0), 1);
    });
    of("1", "CLAUSES with ; between", () -> {
      fault(0, "a:1;b:2", NO);
      fault(0, ";a:1", 0);
      fault(0, "a:1;", 4);
      fault(0, "a:1;;b:2", 4);
      fault(0, "a:1 b:2", 4);
      fault(0, "a:;;", 3);
    });
    of("1", "1 to 3 unlike letters (a .. d)", () -> {
      fault(0, ":", 0);
      fault(0, "a:", NO);
      fault(0, "da:", NO);
      fault(0, "dcb:", NO);
      fault(0, "abcd:", 3);
      fault(0, "aa:", 1);
      fault(0, "`:", 0);
      fault(0, "e:", 0);
      fault(0, "a`:", 1);
      fault(0, "abe:", 2);
      fault(0, "A:", 0);
      fault(0, "D:", 0);
      LeapJoin x = told("dcb:1,2,3;a:");
      due("letters", x.table(0, 0), 3);
      due("letters", x.table(0, 1), 14);
      due("letters", x.table(1, 0), 1);
    });
    of("1", "with nothing between but blanks, a :", () -> {
      fault(0, " a  b c :", NO);
      fault(0, "a,b:", 1);
      fault(0, "a/b:", 1);
      fault(0, "a\tb:", 1);
      fault(0, "a", 1);
      fault(0, "a;", 1);
      fault(0, "a1", 1);
      fault(0, "a::", 2);
    });
    of("1", "none or more ROWS with / between", () -> {
      fault(0, "a:", NO);
      fault(0, "a:1", NO);
      fault(0, "a:1/2", NO);
      fault(0, "a:/", 2);
      fault(0, "a:1/", 4);
      fault(0, "a:1//2", 4);
      fault(0, "a:1/;b:", 4);
      due("no row", told("a:").rule(4), 0);
      due("two rows", told("a:1/2").rule(4), 2);
    });
    of("1", "each as many numbers (0 .. 99, one or two digits) with , between as it has letters", () -> {
      fault(0, "a:0/99/00/09", NO);
      LeapJoin x = told("a:0/99/09");
      due("the least", x.cell(0, 0, 0), 0);
      due("two digits", x.cell(0, 1, 0), 9);
      due("the greatest", x.cell(0, 2, 0), 99);
      fault(0, "a:100", 4);
      fault(0, "ab:1,2", NO);
      fault(0, "abc:1,2,3", NO);
      fault(0, "abc:1,2;d:", 7);
      fault(0, "abc:1/", 5);
      fault(0, "ab:1;d:", 4);
      fault(0, "ab:1,;d:", 5);
      fault(0, "ab:,1", 3);
      fault(0, "a:1,2", 3);
      fault(0, "a:-1", 2);
    });
    of("1", "12 ROWS at most", () -> {
      due("rows", told("a:" + rows(12)).rule(4), 12);
      due("in each table", told("a:" + rows(12) + ";b:" + rows(12) + ";c:" + rows(12) + ";d:" + rows(12)).rule(4), 48);
      LeapJoin x = fed("a:" + rows(13));
      due("thirteen", x.text(0), NO);
      due("eleven", told("a:" + rows(11)).rule(4), 11);
    });
    of("1", "A ROW told twice is there once", () -> {
      due("rows", told("a:1/1").rule(4), 1);
      due("rows", told("a:1/01/1").rule(4), 1);
      due("rows", told("ab:1,2/2,1/1,2").rule(4), 2);
      due("rows", told("a:1;a:1").rule(4), 2);
      due("twelve told", told("a:" + times(12, "1", "/")).rule(4), 1);
      due("the join", told("a:1/1;b:2/2/3").rows(), 2);
    });
  }

  private static void textsOfScripts() {
    of("1", "SCRIPTS (4 at most) are TEXTS", () -> {
      LeapJoin x = new LeapJoin();
      for (int i = 0; i < 4; i++) { feed(x, "u" + i); due("script", x.text(1), i); due("scripts", x.count(1), i + 1); }
      feed(x, "u4");
      due("a fifth", x.text(1), NO);
      due("scripts", x.count(1), 4);
    });
    of("1", "STEPS with ; between, 1 to 12", () -> {
      fault(1, "", 0);
      fault(1, ";", 0);
      fault(1, "u0", NO);
      fault(1, times(12, "u0", ";"), NO);
      fault(1, times(13, "u0", ";"), 35);
      fault(1, "u0;", 3);
      fault(1, "u0;;u0", 3);
      fault(1, "u0 u0", 3);
      LeapJoin x = scripted("", times(12, "u0", ";"));
      due("the twelfth", x.step(0, 11, 0), 2);
      due("no thirteenth", x.step(0, 12, 0), HID);
    });
    of("1", "p (put in), t (taken away) with a digit, : and 1 to 3 numbers with , between (the TABLE, a ROW)", () -> {
      for (char c : new char[] {'p', 't'}) {
        fault(1, c + "0:1", NO);
        fault(1, c + "9:1,2", NO);
        fault(1, c + "5:0,99,00", NO);
        fault(1, c + "", 1);
        fault(1, c + ":1", 1);
        fault(1, c + "0", 2);
        fault(1, c + "01:1", 2);
        fault(1, c + "0 1:1", 3);
        fault(1, c + "0:", 3);
        fault(1, c + "0:;u0", 3);
        fault(1, c + "0:,1", 3);
        fault(1, c + "0:1,", 5);
        fault(1, c + "0:1,,2", 5);
        fault(1, c + "0:1/2", 4);
        fault(1, c + "0:1,2,3,", 8);
        fault(1, c + "0:1,2,3,4", 8);
        fault(1, c + "0:100", 5);
      }
    });
    of("1", "u and a digit (a TABLE is USED or not any more)", () -> {
      fault(1, "u0", NO);
      fault(1, "u9", NO);
      fault(1, "u", 1);
      fault(1, "u;", 1);
      fault(1, "u10", 2);
      fault(1, "u1:1", 2);
      fault(1, "ua", 1);
    });
    of("1", "o and a number (0 .. 23: the ORDER)", () -> {
      for (int n = 0; n < 24; n++) { fault(1, "o" + n, NO); due("o" + n, scripted("", "o" + n).step(0, 0, 1), n); }
      for (int n = 0; n < 10; n++) { fault(1, "o0" + n, NO); due("o0" + n, scripted("", "o0" + n).step(0, 0, 1), n); }
      for (int n = 24; n < 100; n++) fault(1, "o" + n, 2);
      fault(1, "o", 1);
      fault(1, "o:1", 1);
      fault(1, "o1:1", 2);
    });
    of("1", "what a STEP tells that can't be is no FAULT", () -> {
      fault(1, "p9:1", NO);
      fault(1, "p0:1,2,3;p0:1", NO);
      fault(1, "u9;u9;o0;o0;t5:99", NO);
      LeapJoin x = told("a:1");
      feed(x, "p9:1,2,3;p0:1;t0:5;u0;o0");
      due("fault(1)", x.fault(1), NO);
      due("text(1)", x.text(1), 0);
    });
  }

  private static void faultsOfTexts() {
    of("1", "Blanks (32) may stand between all signs of both", () -> {
      fault(0, "  a  b  :  1  ,  22  /  3  ,  04  ;  c  :  ;  d  :  5  ", NO);
      fault(1, "  p  0  :  1  ,  22  ,  3  ;  t  9  :  4  ;  u  8  ;  o  23  ;  o  5  ", NO);
      LeapJoin x = told("  a  b  :  1  ,  22  /  3  ,  04  ");
      due("cell", x.cell(0, 0, 1), 22);
      due("cell", x.cell(0, 1, 1), 4);
      for (String other : new String[] {"\t", "\n", "\r", "\37", "\41", "\240"}) { fault(0, "a" + other + ":", 1); fault(1, "u" + other + "0", 1); }
    });
    of("1", "not within a number", () -> {
      fault(0, "a:1 2", 4);
      fault(0, "a:1  2", 5);
      fault(0, "a:12 3", 5);
      fault(0, "ab:1 2,3", 5);
      fault(1, "p0:1 2", 5);
      fault(1, "t0:1,2 2", 7);
      fault(1, "o1 2", 3);
      fault(1, "o 0 1", 4);
    });
    of("1", "FAULT: the first byte at which no such TEXT can go on (the length, if it ends too early)", () -> {
      // each beginning of these either is whole or ends too early
      prefixes(0, "ab:1,22/33,4; c:;d : 5 /6", "ab:|ab:1,2|ab:1,22|ab:1,22/33,4|ab:1,22/33,4; c:|ab:1,22/33,4; c:;d :|ab:1,22/33,4; c:;d : 5|ab:1,22/33,4; c:;d : 5 /6|");
      prefixes(1, "p0:1,22,3;t9:44;u1; o 23;o4 ", "p0:1|p0:1,2|p0:1,22|p0:1,22,3|p0:1,22,3;t9:4|p0:1,22,3;t9:44|p0:1,22,3;t9:44;u1|p0:1,22,3;t9:44;u1; o 2|p0:1,22,3;t9:44;u1; o 23|p0:1,22,3;t9:44;u1; o 23;o4|");
      // the first one, whatever comes then
      fault(0, "a:1!a:100", 3);
      fault(0, "a:100;e", 4);
      fault(1, "u1!o24", 2);
    });
    of("1", "a letter that was there in that TABLE", () -> {
      fault(0, "aa:", 1);
      fault(0, "aba:", 2);
      fault(0, "abb:", 2);
      fault(0, "a a", 2);
      fault(0, "dcd:", 2);
      fault(0, "a:;a:", NO);
      fault(0, "ab:1,2;ba:;aa:", 12);
      due("in another table", told("ab:;ba:").table(1, 1), 3);
    });
    of("1", "a fourth one", () -> {
      fault(0, "abcd:", 3);
      fault(0, "a b c d :", 6);
      fault(0, "abca:", 3);
      fault(0, "abc:", NO);
      fault(0, "d:;bcda", 6);
    });
    of("1", "a third digit", () -> {
      fault(0, "a:123", 4);
      fault(0, "a:000", 4);
      fault(0, "ab:12,345", 8);
      fault(0, "a:12/345", 7);
      fault(1, "p0:123", 5);
      fault(1, "t0:1,2,003", 9);
      fault(1, "o000", 3);
      fault(1, "o123", 3);
    });
    of("1", "a number or , too many", () -> {
      fault(0, "a:1,", 3);
      fault(0, "ab:1,2,", 6);
      fault(0, "abc:1,2,3,4", 9);
      fault(0, "a:1/2,3", 5);
      fault(0, "a:1 1", 4);
      fault(0, "ab:1,2 3", 7);
      fault(1, "p0:1,2,3,4", 8);
      fault(1, "p0:1,2,3 4", 9);
      fault(1, "p0:1 4", 5);
    });
    of("1", "/ ahead of a 13th ROW", () -> {
      String s = "a:" + rows(12);
      fault(0, s, NO);
      fault(0, s + "/", s.length());
      fault(0, s + "/12", s.length());
      fault(0, s + " / 12", s.length() + 1);
      fault(0, s + ";b:" + rows(12) + "/12", 2 * s.length() + 1);
      String twice = "ab:" + times(12, "1,1", "/");
      fault(0, twice, NO);
      fault(0, twice + "/1,1", twice.length());
    });
    of("1", "; ahead of a fifth TABLE", () -> {
      fault(0, "a:;b:;c:;d:", NO);
      fault(0, "a:;b:;c:;d:;", 11);
      fault(0, "a:;b:;c:;d:1/2 ;a:", 15);
      fault(0, "a:;b:;c:;d:;e", 11);
    });
    of("1", "a 13th STEP", () -> {
      String s = times(12, "o1", ";");
      fault(1, s, NO);
      fault(1, s + ";", 35);
      fault(1, s + ";o1", 35);
      fault(1, s + "  ;o1", 37);
      fault(1, times(12, "p0:1", ";") + ";", 59);
    });
    of("1", "o above 23 at the last digit", () -> {
      fault(1, "o23", NO);
      fault(1, "o24", 2);
      fault(1, "o29", 2);
      fault(1, "o30", 2);
      fault(1, "o99", 2);
      fault(1, "o3", NO);
      fault(1, "o9", NO);
      fault(1, "o  24", 4);
      fault(1, "u0;o240", 5);
    });
    of("1", "any other byte", () -> {
      others(0, "", " abcd");
      others(0, "a", " bcd:");
      others(0, "abc", " :");
      others(0, "a:", " 0123456789;");
      others(0, "a:1", " 0123456789/;");
      others(0, "a:12", " /;");
      others(0, "ab:1", " 0123456789,");
      others(0, "ab:1,", " 0123456789");
      others(0, "ab:1,2/", " 0123456789");
      others(0, "a:;", " abcd");
      others(1, "", " ptuo");
      others(1, "p", " 0123456789");
      others(1, "t0", " :");
      others(1, "p0:", " 0123456789");
      others(1, "p0:1", " 0123456789,;");
      others(1, "t0:11,2,33", " ;");
      others(1, "u", " 0123456789");
      others(1, "u0", " ;");
      others(1, "o", " 0123456789");
      others(1, "o1", " 0123456789;");
      others(1, "o2", " 0123;");
      others(1, "o3", " ;");
      others(1, "o1;", " ptuo");
    });
  }

  private static void prefixes(int sort, String text, String whole) {
    for (int n = 0; n <= text.length(); n++) {
      String s = text.substring(0, n);
      fault(sort, s, ("|" + whole).contains("|" + s.stripTrailing() + "|") && n > 0 ? NO : n);
    }
  }

  /** Behind that beginning each byte but some is the fault. */
  private static void others(int sort, String start, String some) {
    for (int b = 1; b < 256; b++) {
      LeapJoin x = fed(start + (char) b);
      due("fault(" + sort + ") of \"" + start + "\" and the byte " + b, x.fault(sort) == start.length(), some.indexOf(b) < 0);
    }
  }

  // ---- section 2: the join

  private static void joins() {
    of("2", "A TABLE has letters (in the order told)", () -> {
      LeapJoin x = told("dab:1,2,3");
      for (int k = 0; k < 4; k++) due("row(0, " + k + ")", x.row(0, k), new int[] {2, 3, NO, 1}[k]);
      String[] orders = {"abc", "acb", "bac", "bca", "cab", "cba"};
      for (String letters : orders) for (int n : new int[] {0, 6, 12, 23}) {
        LeapJoin y = told(letters + ":0,64,98/98,0,64");
        if (n > 0) y.order(n);
        for (int first : new int[] {0, 98}) {
          int[] v = {7, 7, 7, 7};
          for (int c = 0; c < 3; c++) v[letters.charAt(c) - 'a'] = first == 0 ? new int[] {0, 64, 98}[c] : new int[] {98, 0, 64}[c];
          due("the row of " + first + " of " + letters + " by order " + n, y.has(v[0], v[1], v[2], v[3]), true);
        }
      }
    });
    of("2", "(0 abcd, 1 abdc, .. 23 dcba; 0 at first)", () -> {
      LeapJoin x = told("a:1/2;b:1/2;c:1/2;d:1/2");
      due("at first", x.rule(2), 0);
      String[] some = {"abcd", "abdc", "dcba"};
      int[] orders = {0, 1, 23};
      for (int n = 0; n < 3; n++) {
        if (n > 0) x.order(orders[n]);
        for (int k = 0; k < 4; k++) for (int j = 0; j < 4; j++)
          due("row(" + (8 >> k) + ") by order " + orders[n], x.row(8 >> k, some[n].charAt(j) - 'a'), j == k ? 2 : 1);
      }
      due("22", x.order(22), 23);
      due("24 is none", x.order(24), NO);
      tell(x, "a:1");
      due("at first again", x.rule(2), 0);
    });
    of("2", "All TABLES are USED at first", () -> {
      due("one", told("a:").rule(1), 1);
      LeapJoin x = told("a:;b:;c:;d:");
      due("four", x.rule(1), 15);
      for (int t = 0; t < 4; t++) due("table(" + t + ", 3)", x.table(t, 3), 1);
      x.use(2);
      tell(x, "a:;b:;c:");
      due("again", x.rule(1), 7);
    });
    of("2", "LETTERS asked are those of USED TABLES", () -> {
      LeapJoin x = told("ab:1,2;bd:2,4;c:");
      due("all", x.rule(3), 15);
      x.use(2);
      due("without c", x.rule(3), 11);
      x.use(0);
      due("b still, by the other", x.rule(3), 10);
      x.use(0);
      x.use(1);
      due("b still, by the first", x.rule(3), 3);
    });
    of("2", "so that each USED TABLE has the ROW of its letters' numbers", () -> {
      LeapJoin x = told("a:1/2;a:2/3;b:9");
      due("rows", x.rows(), 1);
      x.use(1);
      due("rows", x.rows(), 2);
      x.take(2, 9, NO, NO);
      due("an empty one", x.rows(), 0);
      x.use(2);
      due("not used", x.rows(), 2);
      String all = rows(12);
      x = told("a:" + all + ";b:" + all + ";c:" + all + ";d:" + all);
      due("the most that can be", x.rows(), 20736);
      due("its last", x.row(20735, 0) + x.row(20735, 3), 22);
      due("its first", x.row(0, 0) + x.row(0, 3), 0);
      due("leaps", x.leaps(), 12 + 144 + 1728 + 20736);
      due("beginnings(4)", x.beginnings(4), 20736);
    });
    of("2", "ordered by numbers in the ORDER", () -> {
      LeapJoin x = told("ab:10,9/9,10/99,0/0,99");
      int[] a = {0, 9, 10, 99};
      for (int i = 0; i < 4; i++) due("row(" + i + ", 0)", x.row(i, 0), a[i]);
      x.order(6);
      for (int i = 0; i < 4; i++) due("row(" + i + ", 0)", x.row(i, 0), a[3 - i]);
    });
    of("2", "that have the numbers found so far", () -> {
      // a full table whose last numbers are the first ones of the table behind it
      LeapJoin x = told("ab:" + "0,1/0,2/0,3/0,4/0,5/0,6/0,7/0,8/0,9/0,10/0,11/5,1;ac:5,2/5,3;a:5");
      due("rows", x.rows(), 2);
      due("leaps", x.leaps(), 1 + 2 + 1 + 1);
      due("beginnings(2)", x.beginnings(2), 1);
      // rows that were there ahead of an act
      x = told("ab:1,1/1,2/1,3");
      for (int n = 3; n > 1; n--) {
        x.take(0, 1, n, NO);
        due("rows", x.rows(), n - 1);
        due("leaps", x.leaps(), n);
        due("given(0)", x.given(0), (1 << n - 1) - 1);
      }
    });
    of("2", "unlike numbers, rising, of that letter in its ROWS that have the numbers found so far", () -> {
      // a: 1 is one key; b: 1, 2, to the end; a: to the end
      due("leaps", told("ab:1,1/1,2;a:1").leaps(), 3);
      due("beginnings(1)", told("ab:1,1/1,2;a:1").beginnings(1), 1);
      due("leaps", told("a:1;ab:1,1/1,2").leaps(), 3);
      // a: 1, b: 5, to the end; a: 2, b: 5, to the end; a: to the end
      due("leaps", told("ab:2,5/1,5").leaps(), 4);
    });
    of("2", "is there one without KEYS, there is nothing to be found", () -> {
      due("leaps", told("a:1/2;a:").leaps(), 0);
      due("leaps", told("a:;a:1/2").leaps(), 0);
      due("leaps", told("a:").leaps(), 0);
      due("beginnings", told("a:;a:1/2").beginnings(1), 0);
      // a: 1, nothing; 2, nothing; to the end
      LeapJoin x = told("a:1/2;b:;b:1");
      due("leaps", x.leaps(), 2);
      due("beginnings(1)", x.beginnings(1), 2);
      due("beginnings(2)", x.beginnings(2), 0);
      x.order(6);
      due("leaps, b ahead", x.leaps(), 0);
      due("beginnings(1)", x.beginnings(1), 0);
    });
    of("2", "As long as none is at its end", () -> {
      due("the first goes on, the second ends", told("a:1/5;a:1").leaps(), 2);
      due("the first ends", told("a:1;a:1/5").leaps(), 1);
      due("none alike", told("a:1/2/3;a:4").leaps(), 1);
      due("none alike", told("a:4;a:1/2/3").leaps(), 1);
    });
    of("2", "behind that the TABLE with the lowest number goes to its next KEY", () -> {
      // found 1; 0 goes to 2; 1 leaps to 3 and 0 ends
      due("leaps", told("a:1/2;a:1/3").leaps(), 3);
      due("leaps", told("a:1/3;a:1/2").leaps(), 2);
      // the lowest that has the letter: table 1 ends at once
      due("leaps", told("b:1;a:1;a:1/9").leaps(), 2);
    });
    of("2", "goes to its first KEY that is no less than that", () -> {
      due("one that is alike", told("a:1/3;a:3").leaps(), 2);
      due("one that is greater", told("a:1/4;a:3").leaps(), 2);
      due("over many at once", told("a:0/1/2/3/4/5/9;a:9").leaps(), 2);
      // 0 at 1, 1 at 2, 2 at 3: 0 to 3, 1 to 5, 0 to its end
      due("the lowest of those at less", told("a:1/3;a:2/5;a:3/5").leaps(), 3);
      // to the greatest (9) at once, not to that of the next one
      due("the greatest of their keys", told("a:1/2/9;a:2/9;a:9").leaps(), 3);
    });
    of("2", "Each such going is a LEAP (that to its end, too)", () -> {
      due("leaps", told("a:1").leaps(), 1);
      due("leaps", told("a:1/2").leaps(), 2);
      due("leaps", told("a:2;a:1").leaps(), 1);
      due("leaps", told("ab:1,1").leaps(), 2);
      due("leaps", told("abc:1,1,1;d:4").leaps(), 4);
      String all = "a:" + rows(12);
      due("the most at one letter", told(all + ";" + all + ";" + all + ";" + all).leaps(), 45);
      due("found at one letter", told(all + ";" + all + ";" + all + ";" + all).rows(), 12);
    });
  }

  private static void acts() {
    of("2", "A ROW is put in: the numbers for the letters of a TABLE in the order told (NONE for what it has not)", () -> {
      LeapJoin x = told("a:;db:;cab:");
      due("put", x.put(0, 7, NO, NO), 1);
      due("put", x.put(1, 4, 2, NO), 1);
      due("put", x.put(2, 3, 7, 2), 1);
      for (int k = 0; k < 4; k++) due("row(0, " + k + ")", x.row(0, k), new int[] {7, 2, 3, 4}[k]);
      due("one more", x.put(0, 7, 0, NO), NO);
      due("one more", x.put(0, 7, NO, 0), NO);
      due("one more", x.put(1, 5, 2, 0), NO);
      due("one less", x.put(1, 5, NO, NO), NO);
      due("one less", x.put(2, 5, 6, NO), NO);
      due("one less", x.put(2, NO, 5, 6), NO);
      due("status(1)", x.status(1), 6);
    });
    of("2", "one that it has not; taken away: one that it has", () -> {
      LeapJoin x = told("ab:1,2;ab:");
      due("put", x.put(0, 1, 2, NO), NO);
      due("put", x.put(0, 2, 1, NO), 2);
      due("take", x.take(1, 1, 2, NO), NO);
      due("put", x.put(1, 1, 2, NO), 1);
      due("take", x.take(1, 1, 2, NO), 0);
      due("take", x.take(1, 1, 2, NO), NO);
      due("put again", x.put(1, 1, 2, NO), 1);
      due("status(2)", x.status(2), 3);
    });
    of("2", "A TABLE is USED, or not any more (one at least is)", () -> {
      LeapJoin x = told("a:1;b:1;c:1;d:1");
      due("use(0)", x.use(0), 0);
      due("use(1)", x.use(1), 0);
      due("use(2)", x.use(2), 0);
      due("the last", x.use(3), NO);
      due("used", x.rule(1), 8);
      due("use(0)", x.use(0), 1);
      due("not the last now", x.use(3), 0);
      due("the last", x.use(0), NO);
      due("one alone", told("a:1").use(0), NO);
      due("status(2)", x.status(2), 2);
    });
    of("2", "the latest 40 can be UNDONE one by one (the LOG, too)", () -> {
      for (int many : new int[] {1, 39, 40, 41, 60, 61, 100, 101, 102}) {
        LeapJoin x = told("a:1");
        for (int i = 1; i <= many; i++) { x.order(i % 24); due("can be undone behind " + i, x.count(4), Math.min(i, 40)); }
        int can = Math.min(many, 40);
        for (int i = 1; i <= can; i++) {
          due("undo()", x.undo(), can - i);
          due("can be undone", x.count(4), can - i);
          due("the order", x.rule(2), (many - i) % 24);
          due("how long the log is", x.count(3), Math.min(many - i, 60));
          due("the latest in the log", x.log(0, 1), many == i ? HID : (many - i) % 24);
        }
        due("none more of " + many, x.undo(), NO);
        due("the order stays", x.rule(2), (many - can) % 24);
        int left = Math.min(many - can, 60);
        for (int i = 0; i < left; i += 7) due("log(" + i + ", 1) of " + many, x.log(i, 1), (many - can - i) % 24);
        due("the last in the log", x.log(left, 1), HID);
      }
      // each sort
      LeapJoin x = told("ab:1,2/3,4;b:2/4");
      String[] was = new String[5];
      for (int i = 0; i < 5; i++) {
        was[i] = x.rule(1) + " " + x.rule(2) + " " + x.rule(4) + " " + x.cell(0, 0, 0) + " " + x.cell(1, 0, 0) + " " + x.rows() + " " + x.leaps() + " " + x.count(3);
        if (i == 0) x.put(0, 0, 4, NO);
        if (i == 1) x.take(1, 2, NO, NO);
        if (i == 2) x.use(1);
        if (i == 3) x.order(9);
        if (i == 4) x.use(1);
      }
      for (int i = 4; i >= 0; i--) {
        due("undo()", x.undo(), i);
        alike("undo()", x.rule(1) + " " + x.rule(2) + " " + x.rule(4) + " " + x.cell(0, 0, 0) + " " + x.cell(1, 0, 0) + " " + x.rows() + " " + x.leaps() + " " + x.count(3), was[i]);
      }
      // between: others come behind what was undone
      x = told("a:1");
      for (int i = 1; i <= 45; i++) x.order(i % 24);
      for (int i = 0; i < 10; i++) x.undo();
      for (int i = 1; i <= 5; i++) x.put(0, 10 + i, NO, NO);
      due("can be undone", x.count(4), 35);
      for (int i = 1; i <= 5; i++) x.undo();
      due("rule(4)", x.rule(4), 1);
      due("rule(2)", x.rule(2), 35 % 24);
      for (int i = 0; i < 30; i++) x.undo();
      due("rule(2)", x.rule(2), 5);
      due("none", x.undo(), NO);
    });
    of("2", "STATUS: how many ACTS were refused as there was no such one, no TABLES (0)", () -> {
      for (int k = 0; k < 4; k++) due("at first", new LeapJoin().status(k), 0);
      refused(Boundaries::made, "put(0, 1, -1, -1)", x -> x.put(0, 1, NO, NO), NO, 0);
      refused(Boundaries::made, "take(0, 1, -1, -1)", x -> x.take(0, 1, NO, NO), NO, 0);
      refused(Boundaries::made, "use(0)", x -> x.use(0), NO, 0);
      refused(Boundaries::made, "order(1)", x -> x.order(1), NO, 0);
      for (int t : new int[] {-1, 4, 32, MIN, MAX}) {
        refused(Boundaries::busy, "put(" + t + ", 1, -1, -1)", x -> x.put(t, 1, NO, NO), NO, 0);
        refused(Boundaries::busy, "take(" + t + ", 1, -1, -1)", x -> x.take(t, 1, NO, NO), NO, 0);
        refused(Boundaries::busy, "use(" + t + ")", x -> x.use(t), NO, 0);
      }
    });
    of("2", "out of bounds, not as many numbers as letters (1)", () -> {
      refused(Boundaries::busy, "put(0, 100, 1, -1)", x -> x.put(0, 100, 1, NO), NO, 1);
      refused(Boundaries::busy, "put(0, 1, -1, -1)", x -> x.put(0, 1, NO, NO), NO, 1);
      refused(Boundaries::busy, "take(0, 1, 2, 3)", x -> x.take(0, 1, 2, 3), NO, 1);
      refused(Boundaries::busy, "order(24)", x -> x.order(24), NO, 1);
    });
    of("2", "it is so, it can't be so (2)", () -> {
      refused(Boundaries::busy, "put(0, 1, 2, -1)", x -> x.put(0, 1, 2, NO), NO, 2);
      refused(Boundaries::busy, "take(0, 9, 9, -1)", x -> x.take(0, 9, 9, NO), NO, 2);
      refused(Boundaries::busy, "order(8)", x -> x.order(8), NO, 2);
      refused(() -> told("a:1"), "use(0)", x -> x.use(0), NO, 2);
    });
    of("2", "too much: 12 ROWS (3)", () -> {
      refused(Boundaries::full, "put(0, 50, -1, -1)", x -> x.put(0, 50, NO, NO), NO, 3);
      LeapJoin x = told("a:" + rows(11));
      due("the twelfth", x.put(0, 50, NO, NO), 12);
      due("the thirteenth", x.put(0, 51, NO, NO), NO);
      x.take(0, 0, NO, NO);
      due("the twelfth again", x.put(0, 51, NO, NO), 12);
      due("status(3)", x.status(3), 1);
    });
    of("2", "of several the first", () -> {
      refused(Boundaries::made, "put(-1, 100, -2, 5)", x -> x.put(-1, 100, -2, 5), NO, 0);
      refused(Boundaries::made, "order(24)", x -> x.order(24), NO, 0);
      refused(Boundaries::made, "order(0)", x -> x.order(0), NO, 0);
      refused(Boundaries::busy, "put(4, 100, -2, 5)", x -> x.put(4, 100, -2, 5), NO, 0);
      refused(Boundaries::busy, "take(4, 100, -2, 5)", x -> x.take(4, 100, -2, 5), NO, 0);
      refused(Boundaries::full, "put(0, 5, -1, -1)", x -> x.put(0, 5, NO, NO), NO, 2);
      refused(Boundaries::full, "put(0, 100, -1, -1)", x -> x.put(0, 100, NO, NO), NO, 1);
      refused(Boundaries::full, "put(0, 5, 5, -1)", x -> x.put(0, 5, 5, NO), NO, 1);
      refused(Boundaries::full, "take(0, 50, 50, -1)", x -> x.take(0, 50, 50, NO), NO, 1);
    });
    of("2", "not UNDONE", () -> {
      LeapJoin x = told("a:1");
      x.order(1);
      x.order(1);
      x.put(9, 1, NO, NO);
      x.undo();
      x.undo();
      due("status(2)", x.status(2), 1);
      due("status(0)", x.status(0), 1);
      x.image();
      x.order(99);
      x.back();
      due("status(1)", x.status(1), 1);
      due("a refused one is none to be undone", x.count(4), 0);
    });
    of("2", "The LOG: of each ACT its sort (0 put in, 1 taken away, 2 USED or not, 3 ORDER), a number (the TABLE; the ORDER told), how many rows the JOIN has then", () -> {
      LeapJoin x = told("a:1/2;b:5;b:5");
      x.put(0, 3, NO, NO);
      x.take(1, 5, NO, NO);
      x.use(1);
      x.order(23);
      x.use(1);
      x.order(0);
      int[][] want = {{3, 0, 0}, {2, 1, 0}, {3, 23, 3}, {2, 1, 3}, {1, 1, 0}, {0, 0, 3}};
      for (int i = 0; i < 6; i++) for (int w = 0; w < 3; w++) due("log(" + i + ", " + w + ")", x.log(i, w), want[i][w]);
      x.order(0);
      x.put(0, 3, NO, NO);
      due("a refused one is not there", x.count(3), 6);
    });
    of("2", "the latest 60", () -> {
      LeapJoin x = told("a:1");
      for (int i = 1; i <= 130; i++) {
        x.order(i % 24);
        due("count(3) behind " + i, x.count(3), Math.min(i, 60));
        due("the latest", x.log(0, 1), i % 24);
      }
      for (int i = 0; i < 60; i++) due("log(" + i + ", 1)", x.log(i, 1), (130 - i) % 24);
      due("log(60, 1)", x.log(60, 1), HID);
    });
  }

  // ---- section 3: what is asked

  private static void asked() {
    of("3", "(Apart, from as it is now.)", () -> {
      Consumer<LeapJoin> all = x -> {
        x.leaps(); x.beginnings(1); x.best(0); x.best(1); x.plain(); x.given(0); x.without(0); x.without(3);
        x.projected(1); x.projected(4); x.times(0, 1); x.distinct(1, 3); x.tells(0, 1); x.behind(0, 0, 0, 0); x.has(1, 2, 5, 0);
        x.mean(0); x.meanAs(0, 0); x.spread(0); x.skew(0); x.would(0, 9, 9, NO, 0); x.would(1, 9, 9, NO, 1);
        x.run(0, 0); x.run(0, 1);
        for (int w = 0; w < 7; w++) x.most(w);
        x.fault(0); x.fault(1); x.rows(); x.row(0, 0); x.cell(0, 0, 0); x.step(0, 0, 0); x.log(0, 0); x.status(0); x.count(0);
      };
      LeapJoin x = busy();
      all.accept(x);
      for (int k = 0; k < 4; k++) due("status(" + k + ")", x.status(k), 0);
      alike("all that asks", seen(x), seen(busy()));
      // from as it is now: behind acts, a text that is no more than tried, and what stood apart ahead of it
      x = scripted("a:1/2;b:1/2", "o3");
      x.put(0, 3, NO, NO);
      due("without(1)", x.without(1), 3);
      x.put(0, 4, NO, NO);
      due("would", x.would(0, 5, NO, NO, 0), 10);
      x.take(1, 1, NO, NO);
      due("run", x.run(0, 1), 4);
      x.use(1);
      due("projected(1)", x.projected(1), 4);
      feed(x, "a:1;b:2;c:3");
      due("fault(0)", x.fault(0), NO);
      due("without(1)", x.without(1), 4);
      due("fault(0)", x.fault(0), NO);
      due("would", x.would(0, 5, NO, NO, 0), 5);
      due("fault(0)", x.fault(0), NO);
      due("run", x.run(0, 1), 4);
      // right behind an act, and behind what undoes it
      x = told("ab:1,1/1,2/1,3;b:9");
      due("best(1)", x.best(1), 1);
      x.put(1, 2, NO, NO);
      due("best(1)", x.best(1), told("ab:1,1/1,2/1,3;b:9/2").best(1));
      due("most(6)", x.most(6), told("ab:1,1/1,2/1,3;b:9/2").most(6));
      x.undo();
      due("best(1)", x.best(1), 1);
      x.image();
      x.use(1);
      due("best(1)", x.best(1), 4);
      x.back();
      due("best(1)", x.best(1), 1);
    });
    of("3", "BEGINNINGS of n numbers (1 .. LETTERS asked)", () -> {
      String[] texts = {"a:1/2", "ab:1,2/1,3", "abc:1,2,3/1,2,4;a:1", "abc:1,2,3/1,2,4;d:5/6"};
      int[][] want = {{2}, {1, 2}, {1, 1, 2}, {1, 1, 2, 4}};
      for (int n = 0; n < 4; n++) {
        LeapJoin x = told(texts[n]);
        due("beginnings(0)", x.beginnings(0), NO);
        for (int k = 0; k <= n; k++) due("beginnings(" + (k + 1) + ")", x.beginnings(k + 1), want[n][k]);
        due("beginnings(" + (n + 2) + ")", x.beginnings(n + 2), NO);
      }
    });
    of("3", "BEST: the ORDER by which LEAPS are fewest (of several the lowest); LEAPS by it", () -> {
      due("all alike", told("a:1/2").best(0), 0);
      due("all 0", told("a:;b:").best(0), 0);
      due("b ahead of a: 6 is the lowest such", told("ab:1,1/1,2/1,3;b:9").best(0), 6);
      due("d ahead, c is not asked: cdab", told("abd:1,1,1/1,2,2/2,1,3;d:9").best(0), 16);
      due("c ahead, b is not asked: bcad", told("ca:1,1/2,1/3,1;c:7").best(0), 8);
      LeapJoin x = told("ab:1,1/1,2/1,3;b:9");
      x.order(6);
      due("as the order is now no matter", x.best(0), 6);
      due("leaps by it", x.best(1), 1);
      due("the most of any", x.most(6), 2);
    });
    of("3", "PLAIN: ROWS of all USED TABLES, multiplied", () -> {
      LeapJoin x = told("a:1/2/3;b:;c:1/2");
      due("an empty one", x.plain(), 0);
      x.use(1);
      due("not used", x.plain(), 6);
      x.use(0);
      due("one alone", x.plain(), 2);
      String all = rows(12);
      due("the most", told("a:" + all + ";a:" + all + ";ab:" + times(12, "1,1", "/") + ";c:" + all).plain(), 1728);
      due("the most", told("a:" + all + ";b:" + all + ";c:" + all + ";d:" + all).plain(), 20736);
    });
    of("3", "GIVEN: ROWS of a TABLE (by place, rising as told, bits: the ORDER of its letters as told) that are in a row of the JOIN", () -> {
      LeapJoin x = told("a:" + rows(12) + ";a:0/11");
      due("the first and the last place", x.given(0), 1 | 1 << 11);
      due("all", x.given(1), 3);
      due("none", told("a:1/2;a:3").given(0), 0);
      due("none", told("a:;b:1").given(1), 0);
      due("a row of 0 is not", told("a:0/1;a:1").given(0), 2);
      due("a row of 0 is", told("a:0/1;a:0").given(0), 1);
      due("a row of 0 and no rows", told("a:0;b:").given(0), 0);
      due("all twelve", told("a:" + rows(12)).given(0), 4095);
      x = told("ba:2,1/1,2;a:2");
      due("as told: 1,2 then 2,1", x.given(0), 1);
      x.order(6);
      due("whatever the order is", x.given(0), 1);
    });
    of("3", "(of one that is not USED none)", () -> {
      LeapJoin x = told("a:1/2;a:1/2");
      due("given(1)", x.given(1), 3);
      x.use(1);
      due("given(1)", x.given(1), 0);
      due("given(0)", x.given(0), 3);
      due("most(3)", x.most(3), 0);
    });
    of("3", "were that one not USED (no other is: NONE)", () -> {
      due("the only table", told("a:1").without(0), NO);
      LeapJoin x = told("a:1/2;b:1/2/3;c:");
      due("without(2)", x.without(2), 6);
      due("without(0)", x.without(0), 0);
      x.use(2);
      due("not used: as it is", x.without(2), 6);
      x.use(1);
      due("the only one that is used", x.without(0), NO);
      due("one that is not", x.without(1), 2);
      due("one that is not", x.without(2), 2);
    });
    of("3", "PROJECTED: how many unlike rows of some letters (bits, a 1, b 2, c 4, d 8) the JOIN has", () -> {
      LeapJoin x = told("abc:1,1,1/1,2,1/2,1,1/2,2,2;d:3/4");
      int[] want = {NO, 2, 2, 4, 2, 3, 3, 4, 2, 4, 4, 8, 4, 6, 6, 8, NO};
      for (int p = 0; p < 17; p++) due("projected(" + p + ")", x.projected(p), want[p]);
      x.order(23);
      for (int p = 0; p < 17; p++) due("projected(" + p + ") by order 23", x.projected(p), want[p]);
      due("no rows", told("a:").projected(1), 0);
      // of the join, not of a table
      x = told("ab:1,2/2,3/4,5;b:3/5/9");
      due("projected(1)", x.projected(1), 2);
      due("projected(2)", x.projected(2), 2);
      due("no rows", told("ab:1,2/2,3;b:9").projected(1), 0);
      due("no rows", told("a:1;b:").projected(1), 0);
    });
    of("3", "TIMES: how many rows of the JOIN have a number for a letter", () -> {
      LeapJoin x = told("a:0/99;b:1/2/3");
      due("times(0, 0)", x.times(0, 0), 3);
      due("times(0, 99)", x.times(0, 99), 3);
      due("times(0, 50)", x.times(0, 50), 0);
      for (int n : new int[] {-1, 100, 128, 256, MIN, MAX}) due("times(0, " + n + ")", x.times(0, n), 0);
      due("no rows", told("a:;b:1").times(1, 1), 0);
    });
    of("3", "that with most TIMES (of several the least)", () -> {
      due("all once", told("a:9/3/5").distinct(0, 3), 3);
      due("two of three", told("ab:1,9/2,9/3,8/4,8/5,7").distinct(1, 3), 8);
      due("the most", told("ab:1,9/2,9/3,1").distinct(1, 3), 9);
      due("0", told("a:0/1").distinct(0, 3), 0);
      due("99", told("a:99").distinct(0, 3), 99);
      due("the greatest", told("a:0/99").distinct(0, 2), 99);
      due("the least", told("a:0/99").distinct(0, 1), 0);
      due("the greatest of 0", told("a:0").distinct(0, 2), 0);
      due("the least of 99", told("a:99").distinct(0, 1), 99);
    });
    of("3", "whether rows of the JOIN that are alike for one letter are so for another one", () -> {
      LeapJoin x = told("ab:1,5/2,5/3,6");
      due("tells(0, 1)", x.tells(0, 1), true);
      due("tells(1, 0)", x.tells(1, 0), false);
      due("itself", x.tells(0, 0), true);
      due("one row", told("ab:1,2").tells(1, 0), true);
      due("no rows", told("ab:").tells(1, 0), true);
      due("0 tells", told("ab:0,5/1,6").tells(0, 1), true);
      due("0 tells not", told("ab:0,5/0,0").tells(0, 1), false);
      due("99 tells", told("ab:99,5/98,5").tells(0, 1), true);
      due("99 tells not", told("ab:99,5/99,99").tells(0, 1), false);
      due("rows apart", told("abc:1,1,1/1,2,2/2,1,1/2,2,1").tells(1, 2), false);
    });
    of("3", "(one for each of a, b, c, d; those not asked no matter)", () -> {
      LeapJoin x = told("bd:1,2/3,4");
      for (int n : new int[] {MIN, -1, 0, 99, 100, MAX}) {
        due("behind(" + n + ", 1, " + n + ", 2)", x.behind(n, 1, n, 2), 1);
        due("behind(" + n + ", 1, " + n + ", 1)", x.behind(n, 1, n, 1), 0);
        due("has(" + n + ", 3, " + n + ", 4)", x.has(n, 3, n, 4), true);
      }
    });
    of("3", "the first row of the JOIN greater than these (in the ORDER)", () -> {
      LeapJoin x = told("ab:1,4/2,3/99,0");
      due("alike is not greater", x.behind(1, 4, 0, 0), 1);
      due("just less", x.behind(1, 3, 0, 0), 0);
      due("just greater", x.behind(1, 5, 0, 0), 1);
      due("the last", x.behind(99, 0, 0, 0), NO);
      due("just ahead of the last", x.behind(99, -1, 0, 0), 2);
      due("least of all", x.behind(MIN, MIN, MIN, MIN), 0);
      due("greatest of all", x.behind(MAX, MAX, MAX, MAX), NO);
      due("by a alone", x.behind(98, MAX, 0, 0), 2);
      x.order(6);
      due("(99, 0) is the first", x.behind(99, 0, 0, 0), 1);
      due("b ahead", x.behind(MAX, 2, 0, 0), 1);
      due("the last", x.behind(1, 4, 0, 0), NO);
    });
    of("3", "as a float (cast, bits), cut (an int)", () -> {
      LeapJoin x = told("ab:98,0/99,0/99,1");
      due("mean", x.mean(0), Double.doubleToLongBits(296.0 / 3));
      due("float", x.meanAs(0, 0), Float.floatToIntBits((float) (296.0 / 3)));
      due("cut", x.meanAs(0, 1), 98);
      due("less than one", x.meanAs(1, 1), 0);
      due("less than one", x.meanAs(1, 0), Float.floatToIntBits((float) (1.0 / 3)));
      for (int n = 0; n < 100; n++) {
        x = told("a:" + n + ";b:" + n + "/" + 7 * n % 100 + ";cd:0,0/0,1/" + n + ",2");
        due("mean of " + n, x.mean(0), Double.doubleToLongBits(n));
        due("float of " + n, x.meanAs(0, 0), Float.floatToIntBits(n));
        due("cut of " + n, x.meanAs(0, 1), n);
        due("mean of " + n + " and " + 7 * n % 100, x.mean(1), Double.doubleToLongBits((n + 7 * n % 100) / 2.0));
        due("mean of a third of " + n, x.mean(2), Double.doubleToLongBits(n == 0 ? 0.0 : n / 3.0));
        due("float of a third of " + n, x.meanAs(2, 0), Float.floatToIntBits((float) (n / 3.0)));
        due("cut of a third of " + n, x.meanAs(2, 1), n / 3);
        x = told("ab:0,0/0,1/0,2/0,3/0,4/0,5/0,6/0,7/0,8/0,9/0,10/" + n + ",11");
        due("mean of a twelfth of " + n, x.mean(0), Double.doubleToLongBits(n / 12.0));
        due("float of a twelfth of " + n, x.meanAs(0, 0), Float.floatToIntBits((float) (n / 12.0)));
      }
      x = told("a:0;b:99");
      due("0", x.mean(0), 0);
      due("0", x.meanAs(0, 0), 0);
      due("99", x.mean(1), Double.doubleToLongBits(99.0));
      due("99", x.meanAs(1, 1), 99);
    });
    of("3", "in the mean (each without sign, doubles added up in order of rows), bits", () -> {
      due("none far", told("a:7;b:1/2").spread(0), 0);
      due("far on both sides", told("a:0/99").spread(0), Double.doubleToLongBits(49.5));
      due("one row", told("a:99").spread(0), 0);
      due("less than one", told("a:0/1").spread(0), Double.doubleToLongBits(0.5));
      due("less than one", told("a:5/6;b:1/2").spread(0), Double.doubleToLongBits(0.5));
      due("less than one on one side", told("ab:0,0/1,0/1,1/1,2").spread(0), Double.doubleToLongBits(0.375));
      LeapJoin x = told("ab:1,60/5,9/11,3/14,55/20,31/29,70/50,2");
      for (int order : new int[] {0, 6}) {
        x.order(order);
        for (int letter = 0; letter < 2; letter++) {
          double mean = 0;
          for (int i = 0; i < 7; i++) mean += x.row(i, letter);
          mean /= 7;
          double sum = 0;
          for (int i = 0; i < 7; i++) sum += Math.abs(x.row(i, letter) - mean);
          due("spread(" + letter + ") by order " + order, x.spread(letter), Double.doubleToLongBits(sum / 7));
        }
      }
      x.order(0);
      long first = x.spread(0) + x.spread(1);
      x.order(6);
      due("the order of rows is seen", x.spread(0) + x.spread(1) != first, true);
    });
    of("3", "SKEW: the share (a float: TIMES of that with most TIMES by rows)", () -> {
      due("all", told("a:0;b:1/2").skew(0), Float.floatToIntBits(1f));
      due("all alike", told("a:4/5/6").skew(0), Float.floatToIntBits(1f / 3));
      String all = rows(12);
      due("the most rows", told("a:" + all + ";b:" + all + ";c:" + all + ";d:" + all).skew(2), Float.floatToIntBits(1728f / 20736f));
    });
    of("3", "WOULD a ROW be put in: rows of the JOIN; LEAPS", () -> {
      LeapJoin x = told("a:" + rows(11) + ";b:1;c:");
      due("the twelfth", x.would(0, 50, NO, NO, 0), 0);
      due("the twelfth", x.would(0, 50, NO, NO, 1), 12 + 12);
      x.use(2);
      due("the twelfth", x.would(0, 50, NO, NO, 0), 12);
      due("into one that is not used", x.would(2, 50, NO, NO, 0), 11);
      due("it is not there", x.rule(4), 12);
    });
    of("3", "RUN of a SCRIPT: behind how many STEPS the first is that can't be; rows of the JOIN behind these", () -> {
      LeapJoin x = scripted("a:1/2;b:1", "u1;p0:3;u0", "u0;u1;p1:5", "p0:1;o1", "o23");
      due("the last of three", x.run(0, 0), 2);
      due("rows behind two", x.run(0, 1), 3);
      due("the second", x.run(1, 0), 1);
      due("rows behind one", x.run(1, 1), 1);
      due("the first", x.run(2, 0), 0);
      due("rows behind none", x.run(2, 1), 2);
      due("none", x.run(3, 0), NO);
      due("rows behind all", x.run(3, 1), 2);
      x = scripted("ab:1,2;dca:5,6,1", "p0:1,3;t0:1,2;p1:7,8,1;t1:5,6,1;p0:1,9", "p0:1,2;t1:5,6,1", "p1:5,6,9;t1:5,6,1;u0", times(12, "u1", ";"));
      due("rows of two numbers, of three", x.run(0, 0), NO);
      due("rows", x.run(0, 1), 2);
      due("it has it", x.run(1, 0), 0);
      due("to the end", x.run(2, 0), NO);
      due("rows", x.run(2, 1), 1);
      due("twelve", x.run(3, 0), NO);
      due("rows", x.run(3, 1), 1);
      // behind the last step there is none
      due("a row of 0", scripted("abc:1,1,1", "o1", "t0:1,1,1").run(0, 1), 1);
      due("a row of 0", scripted("abc:1,1,1", "t0:1,1,1").run(0, 1), 0);
    });
    of("3", "DO: its STEPS as ACTS, up to there (no STATUS)", () -> {
      String[] steps = {"o1;p9:1;o2", "o1;p0:1,2;o2", "o1;p0:1;o2", "o1;p0:50;o2", "o1;u7;o2", "o1;o1;o2", "o1;t0:60;o2", "o1;u1;u0;o2"};
      for (String s : steps) {
        LeapJoin x = scripted("a:" + rows(12) + ";b:1", s);
        int many = s.contains("u0") ? 2 : 1;
        due("perform of " + s, x.perform(0), many);
        due("rule(2)", x.rule(2), 1);
        due("count(3)", x.count(3), many);
        due("count(4)", x.count(4), many);
        due("log", x.log(many - 1, 1), 1);
        for (int k = 0; k < 4; k++) due("status(" + k + ")", x.status(k), 0);
      }
      LeapJoin y = scripted("ab:1,2;dca:5,6,1", "p0:1,3;t0:1,2;p1:7,8,1;t1:5,6,1");
      due("rows of two numbers, of three", y.perform(0), 4);
      due("row(0, 1)", y.row(0, 1), 3);
      due("row(0, 2)", y.row(0, 2), 8);
      due("row(0, 3)", y.row(0, 3), 7);
      LeapJoin x = scripted("a:1", times(6, "o1;o0", ";"));
      for (int i = 1; i <= 6; i++) { due("perform", x.perform(0), 12); due("count(3)", x.count(3), Math.min(60, 12 * i)); due("count(4)", x.count(4), Math.min(40, 12 * i)); }
    });
  }

  // ---- section 4: ways, images

  /** A draw by whole numbers without bounds. */
  private static BigInteger drawn;
  private static int draw(int j) {
    BigInteger all = BigInteger.ONE.shiftLeft(64);
    drawn = drawn.multiply(new BigInteger("6364136223846793005")).add(new BigInteger("1442695040888963407")).mod(all);
    return drawn.shiftRight(33).mod(BigInteger.valueOf(j)).intValue();
  }
  /** The ways, told to the other one as acts; those that can't be count in its status. */
  private static void wayByWay(LeapJoin y, int n, long seed) {
    drawn = BigInteger.valueOf(seed).mod(BigInteger.ONE.shiftLeft(64));
    int many = y.count(0);
    for (int i = 0; i < n; i++) {
      int d = draw(8);
      if (d == 7) { y.order(draw(24)); continue; }
      int t = draw(many);
      if (d == 6) { y.use(t); continue; }
      int[] v = {NO, NO, NO};
      if (d < 4) {
        int width = y.table(t, 0);
        for (int k = 0; k < width; k++) v[k] = draw(6);
        y.put(t, v[0], v[1], v[2]);
      } else {
        int place = draw(12);
        if (place < y.table(t, 2)) { for (int k = 0; k < 3; k++) v[k] = y.cell(t, place, k); y.take(t, v[0], v[1], v[2]); }
      }
    }
  }
  private static void ways(String tables, int n, long seed) {
    LeapJoin x = told(tables);
    LeapJoin y = told(tables);
    int rows = x.ways(n, seed);
    wayByWay(y, n, seed);
    due("ways(" + n + ", " + seed + ")", rows, y.rows());
    for (int k = 0; k < 4; k++) due("no status", x.status(k), 0);
    alike("ways(" + n + ", " + seed + ")", seen(x), seen(y));
  }

  private static void waysAndImages() {
    of("4", "WAYS by a seed: n (1 .. 40) times", () -> {
      for (int n : new int[] {1, 2, 39, 40}) for (long seed = 0; seed < 12; seed++) ways("ab:0,1/2,3;b:1/4;cda:", n, seed);
      LeapJoin x = told("ab:0,1/2,3;b:1/4;cda:");
      due("none", x.ways(0, 5), NO);
      due("too many", x.ways(41, 5), NO);
      due("no act", x.count(3), 0);
    });
    of("4", "(64 bits, going round)", () -> {
      for (long seed : new long[] {Long.MIN_VALUE, Long.MIN_VALUE + 1, Long.MAX_VALUE, -1, 0, 1, 1L << 32, 1L << 33, -(1L << 33), 0x123456789ABCDEFL}) ways("a:0;bc:1,1/2,2;d:3", 20, seed);
    });
    of("4", "(x shifted right by 33, without sign) modulo j", () -> {
      int below = 0;
      for (long seed = -40; seed < 40; seed++) {
        if (seed * 6364136223846793005L + 1442695040888963407L < 0) below++;
        ways("a:0;bc:1,1/2,2;d:3", 1, seed);
        ways("a:0/1/2/3;bc:1,1/2,2;d:3", 3, seed);
      }
      due("with sign and without", below > 20 && below < 60, true);
    });
    of("4", "what can't be is left (no STATUS)", () -> {
      // a full table, rows that are there, the only table, places without a row
      for (long seed = 0; seed < 30; seed++) {
        ways("a:0/1/2/3/4/5", 40, seed);
        ways("ab:" + "10,0/10,1/10,2/10,3/10,4/10,5/10,6/10,7/10,8/10,9/10,10/10,11", 40, seed);
        ways("a:", 5, seed);
      }
    });
    of("4", "An IMAGE keeps all that ACTS change; BACK: it is so again (no ACT can be UNDONE then)", () -> {
      LeapJoin x = told("ab:1,2/3,4;b:2/4;d:5");
      x.put(0, 0, 4, NO);
      x.use(2);
      x.order(9);
      due("image()", x.image(), 3);
      String was = x.rule(1) + " " + x.rule(2) + " " + x.rule(4) + " " + x.leaps() + " " + x.count(3) + " " + x.log(0, 0) + " " + x.log(2, 0);
      due("acts can be undone", x.count(4), 3);
      x.take(0, 1, 2, NO);
      x.put(1, 77, NO, NO);
      x.use(2);
      x.order(2);
      due("back()", x.back(), 3);
      alike("back()", x.rule(1) + " " + x.rule(2) + " " + x.rule(4) + " " + x.leaps() + " " + x.count(3) + " " + x.log(0, 0) + " " + x.log(2, 0), was);
      due("none can be undone", x.count(4), 0);
      due("undo()", x.undo(), NO);
      x.order(3);
      due("one can be", x.count(4), 1);
      due("undo()", x.undo(), 0);
      due("order", x.rule(2), 9);
      due("back(), nothing has changed", x.back(), 3);
      due("back(), a third time", x.back(), 3);
      // the log as it was, however many acts came behind
      for (int many : new int[] {1, 59, 60, 61, 70}) {
        x = told("a:1");
        for (int i = 1; i <= many; i++) x.order(i % 24);
        x.image();
        for (int i = 1; i <= 130; i++) x.order((many + i) % 24);
        x.back();
        due("how long the log is", x.count(3), Math.min(many, 60));
        for (int i = 0; i < many && i < 60; i++) due("log(" + i + ", 1)", x.log(i, 1), (many - i) % 24);
        due("the last", x.log(Math.min(many, 60), 1), HID);
        due("order", x.rule(2), many % 24);
      }
    });
    of("4", "What is refused answers as told and changes nothing but STATUS", () -> {
      for (Supplier<LeapJoin> make : List.<Supplier<LeapJoin>>of(Boundaries::made, Boundaries::busy, Boundaries::full, Boundaries::empty)) {
        refused(make, "all that is refused", x -> {
          x.feed(0, 0, 0, 0, 0); x.end(-1); x.end(401); x.fault(2); x.text(2); x.text(-1); x.rule(5); x.cell(9, 0, 0); x.row(-1, 0);
          x.beginnings(5); x.best(2); x.given(4); x.without(4); x.projected(16); x.times(4, 1); x.distinct(4, 0); x.tells(4, 4);
          x.mean(4); x.meanAs(4, 4); x.spread(4); x.skew(4); x.ways(0, 1); x.ways(41, 1); x.status(4); x.log(60, 0); x.would(4, 1, NO, NO, 0);
          x.step(4, 0, 0); x.run(4, 0); x.perform(4); x.perform(-1); x.most(7); x.count(5); thrown(x, 4, 0); thrown(x, 0, 4);
          return x.ways(-1, 1);
        }, NO);
      }
    });
    of("top", "An object is used for at most 512 calls after it has been made", () -> {
      LeapJoin x = new LeapJoin();
      x.feed(0x613A3100, 0, 0, 0, 0);
      x.text(0);
      for (int i = 3; i <= 508; i++) due("call " + i, i % 2 == 1 ? x.put(0, 2 + i / 2 % 98, NO, NO) : x.take(0, 2 + (i - 1) / 2 % 98, NO, NO), i % 2 == 1 ? 2 : 1);
      due("call 509", x.count(3), 60);
      due("call 510", x.count(4), 40);
      due("call 511", x.undo(), 39);
      due("call 512", x.rows(), 2);
    });
  }

  // ---- the promises, one by one

  private static void promisesOfTexts() {
    of("P1", "No TABLES", () -> {
      LeapJoin x = new LeapJoin();
      for (int w = 0; w < 5; w++) due("count(" + w + ")", x.count(w), 0);
      due("no tape", x.end(1), false);
      due("fault(0)", x.fault(0), 0);
      due("rows()", x.rows(), NO);
      due("table(0, 0) throws", thrown(x, 0, 0), 1);
      due("script", x.step(0, 0, 0), HID);
      due("undo()", x.undo(), NO);
      due("NONE", NO, -1);
      due("HIDDEN", HID, -1000000);
    });
    of("P2", "(of each number the highest first; bytes of 0 are left out)", () -> {
      LeapJoin x = new LeapJoin();
      due("nothing", x.feed(0, 0, 0, 0, 0), 0);
      due("the first", x.feed(0x61000000, 0, 0, 0, 0), 1);
      due("the last", x.feed(0, 0, 0, 0, 0x3A), 2);
      due("each alone", x.feed(0, 0x310000, 0x2F00, 0x32, 0), 5);
      due("text", x.text(0), 1);
      due("1", x.cell(0, 0, 0), 1);
      due("2", x.cell(0, 1, 0), 2);
      due("all twenty", x.feed(-1, MIN | 0x010101, MAX, 0x01FF80FE, 0x80808080), 20);
      due("the highest first", fed("a:12").feed(0x2F333435, 0, 0, 0, 0), 8);
      x = fed("a:");
      x.feed(0x312F3233, 0, 0, 0, 0);
      due("text", x.text(0), 1);
      due("23", x.cell(0, 1, 0), 23);
    });
    of("P2", "NONE: more than 400", () -> {
      LeapJoin x = new LeapJoin();
      for (int i = 1; i <= 20; i++) due("feed", x.feed(0x6F312020, 0x20202020, 0x20202020, 0x20202020, 0x20202020), 20 * i);
      due("401", x.feed(0, 0, 1, 0, 0), NO);
      due("still 400", x.count(2), 400);
      due("none is not too much", x.feed(0, 0, 0, 0, 0), 400);
      due("end(381)", x.end(381), true);
      due("401", x.feed(-1, -1, -1, -1, -1), NO);
      due("still 381", x.count(2), 381);
      due("400, a byte of 0 left out", x.feed(-1, -1, 0x7F007F7F, -1, -1), 400);
      String s = times(399, " ", "");
      for (int k = 0; k < 5; k++) {
        int[] w = new int[5];
        w[k] = 0x00610062;
        refused(() -> fed(s), "feed of two bytes at 399", y -> y.feed(w[0], w[1], w[2], w[3], w[4]), NO);
        w[k] = 0x00610000;
        due("feed of one byte at 399", fed(s).feed(w[0], w[1], w[2], w[3], w[4]), 400);
      }
      // a text of 400 is told whole
      x = fed(times(397, " ", "") + "a:1");
      due("text of 400", x.text(0), 1);
      due("cell", x.cell(0, 0, 0), 1);
    });
    of("P3", "The TAPE has its first n bytes alone", () -> {
      LeapJoin x = fed("a:12;b");
      due("end(6), all", x.end(6), true);
      due("six", x.count(2), 6);
      due("end(3)", x.end(3), true);
      feed(x, "4");
      due("four", x.count(2), 4);
      due("text", x.text(0), 1);
      due("14", x.cell(0, 0, 0), 14);
      x = fed("a:1   /2");
      x.end(1);
      due("blanks that were behind it", x.fault(0), 1);
      x = fed("a:12   ;");
      x.end(3);
      due("a digit that was behind it", x.fault(0), NO);
      x.end(0);
      due("all that was behind it", x.fault(0), 0);
      x = fed("  ");
      x.end(0);
      due("blanks that were behind it", x.fault(0), 0);
      due("blanks that were behind it", x.fault(1), 0);
      feed(x, "u1");
      due("end(0)", x.end(0), true);
      due("none", x.count(2), 0);
      due("end(0) of none", x.end(0), true);
    });
    of("P3", "False: n", () -> {
      for (int n : new int[] {-1, 7, 400, 401, MIN, MAX}) refused(() -> fed("a:12;b"), "end(" + n + ")", x -> x.end(n) ? 1 : 0, 0);
      for (int n : new int[] {-1, 1}) refused(Boundaries::made, "end(" + n + ")", x -> x.end(n) ? 1 : 0, 0);
      LeapJoin x = fed("a:12;b");
      x.end(3);
      due("what was cut off does not come back", x.end(4), false);
      x = told("a:12");
      due("what was told is off the tape", x.end(1), false);
    });
    of("P4", "NONE: none", () -> {
      LeapJoin x = fed("a:1");
      due("fault(0)", x.fault(0), NO);
      due("fault(1)", x.fault(1), 0);
      x = fed("u1");
      due("fault(1)", x.fault(1), NO);
      due("fault(0)", x.fault(0), 0);
      due("the tape stays", x.count(2), 2);
    });
    of("P4", "-2: no such sort", () -> {
      for (int s : new int[] {-1, 2, -2, MIN, MAX}) {
        refused(Boundaries::made, "fault(" + s + ")", x -> x.fault(s), -2);
        refused(Boundaries::busy, "fault(" + s + ")", x -> x.fault(s), -2);
      }
    });
    of("P5", "The TAPE (empty then) is the TABLES (all that was of others is gone but SCRIPTS, STATUS): how many", () -> {
      LeapJoin x = busy();
      x.order(8);
      x.end(0);
      feed(x, "b:1/2;d:");
      due("text(0)", x.text(0), 2);
      due("tape", x.count(2), 0);
      due("tables", x.count(0), 2);
      due("log", x.count(3), 0);
      due("log", x.log(0, 0), HID);
      due("acts", x.count(4), 0);
      due("undo()", x.undo(), NO);
      due("image", x.back(), NO);
      due("used", x.rule(1), 3);
      due("order", x.rule(2), 0);
      due("letters", x.rule(3), 10);
      due("rows", x.rule(4), 2);
      due("scripts", x.count(1), 1);
      due("step", x.step(0, 0, 2), 4);
      due("status", x.status(2), 1);
      due("join", x.rows(), 0);
      due("best", x.best(1), 0);
      due("a table of the others", thrown(x, 2, 0), 1);
      // whatever was asked apart ahead of it
      for (int k = 0; k < 3; k++) {
        LeapJoin y = scripted("ab:1,2/2,1;b:1;c:1", "u2;o4");
        y.order(23);
        if (k == 0) y.without(2);
        if (k == 1) y.would(2, 5, NO, NO, 0);
        if (k == 2) y.run(0, 0);
        tell(y, "ab:1,2/2,1;b:");
        due("order", y.rule(2), 0);
        due("used", y.rule(1), 3);
        due("rows", y.rule(4), 2);
        due("tables", y.rule(0), 2);
      }
      for (int n = 1; n <= 4; n++) { LeapJoin y = fed(times(n, "a:1", ";")); due("text(0)", y.text(0), n); }
    });
    of("P5", "a SCRIPT: its number", () -> {
      LeapJoin x = new LeapJoin();
      for (int i = 0; i < 4; i++) {
        feed(x, "o" + (i + 5));
        due("text(1)", x.text(1), i);
        due("tape", x.count(2), 0);
        for (int k = 0; k <= i; k++) due("step", x.step(k, 0, 1), k + 5);
        due("no other", x.step(i + 1, 0, 0), HID);
      }
      due("no tables needed", x.count(0), 0);
    });
    of("P5", "NONE: a FAULT (the TAPE stays)", () -> {
      for (String s : new String[] {"", " ", "a", "a:1;", "a:100", "u1", "a:1!"}) {
        refused(() -> fed(s), "text(0) of " + s, x -> x.text(0), NO);
        refused(() -> { LeapJoin x = busy(); x.end(0); feed(x, s); return x; }, "text(0) of " + s, x -> x.text(0), NO);
      }
      for (String s : new String[] {"", " ", "p", "u1;", "o24", "a:1", "u1!"}) {
        refused(() -> fed(s), "text(1) of " + s, x -> x.text(1), NO);
        refused(() -> { LeapJoin x = busy(); x.end(0); feed(x, s); return x; }, "text(1) of " + s, x -> x.text(1), NO);
      }
    });
    of("P5", "no such sort", () -> {
      for (int s : new int[] {-1, 2, MIN, MAX}) {
        refused(Boundaries::busy, "text(" + s + ")", x -> x.text(s), NO);
        refused(() -> fed("u1"), "text(" + s + ")", x -> x.text(s), NO);
      }
    });
    of("P5", "there are four SCRIPTS", () -> {
      Supplier<LeapJoin> four = () -> { LeapJoin x = scripted("a:1", "o1", "o2", "o3", "o4"); feed(x, "o5"); return x; };
      refused(four, "text(1)", x -> x.text(1), NO);
      LeapJoin x = four.get();
      due("no fault", x.fault(1), NO);
      for (int i = 0; i < 4; i++) due("step", x.step(i, 0, 1), i + 1);
      x.end(0);
      feed(x, "b:");
      due("tables still can be told", x.text(0), 1);
    });
  }

  private static void promisesOfTables() {
    of("P6", "NONE: no TABLES", () -> { for (int w = -1; w < 6; w++) { int what = w; refused(Boundaries::made, "rule(" + w + ")", x -> x.rule(what), NO); } });
    of("P6", "no such what", () -> {
      for (int w : new int[] {-1, 5, MIN, MAX}) refused(Boundaries::busy, "rule(" + w + ")", x -> x.rule(w), NO);
      LeapJoin x = told("a:");
      int[] want = {1, 1, 0, 1, 0};
      for (int w = 0; w < 5; w++) due("rule(" + w + ")", x.rule(w), want[w]);
    });
    of("P7", "NoSuchElementException: no such ones", () -> {
      for (int t : new int[] {-1, 0, 1, 4, MIN, MAX}) refused(Boundaries::made, "table(" + t + ", 0) throws", x -> thrown(x, t, 0), 1);
      for (int t : new int[] {-1, 4, MIN, MAX}) refused(Boundaries::busy, "table(" + t + ", 0) throws", x -> thrown(x, t, 0), 1);
      for (int w : new int[] {-1, 4, MIN, MAX}) refused(Boundaries::busy, "table(0, " + w + ") throws", x -> thrown(x, 0, w), 1);
      String[] texts = {"a:", "a:;b:", "a:;b:;c:"};
      for (int n = 0; n < 3; n++) {
        LeapJoin x = told(texts[n]);
        for (int t = 0; t < 4; t++) for (int w = 0; w < 4; w++) due("table(" + t + ", " + w + ") of " + texts[n] + " throws", thrown(x, t, w), t > n ? 1 : 0);
      }
      LeapJoin x = busy();
      due("one not used is one", thrown(x, 3, 3), 0);
    });
    of("P7", "3 whether USED (1, 0)", () -> {
      LeapJoin x = told("a:;b:");
      due("at first", x.table(1, 3), 1);
      x.use(1);
      due("not any more", x.table(1, 3), 0);
      due("the other", x.table(0, 3), 1);
      x.use(1);
      due("again", x.table(1, 3), 1);
    });
    of("P8", "NONE: no such ones", () -> {
      refused(Boundaries::made, "cell(0, 0, 0)", x -> x.cell(0, 0, 0), NO);
      for (int t : new int[] {-1, 4, MIN, MAX}) refused(Boundaries::busy, "cell(" + t + ", 0, 0)", x -> x.cell(t, 0, 0), NO);
      LeapJoin x = told("a:5/6;bc:7,8;dab:1,2,3;d:");
      int[] sizes = {2, 1, 1, 0};
      for (int t = 0; t < 4; t++) for (int i = -1; i < 4; i++) for (int k = -1; k < 4; k++)
        due("cell(" + t + ", " + i + ", " + k + ")", x.cell(t, i, k) != NO, i >= 0 && i < sizes[t] && k >= 0 && k <= t % 3);
      for (int n : new int[] {MIN, MAX, 12, 13}) { due("cell", x.cell(0, n, 0), NO); due("cell", x.cell(0, 0, n), NO); }
      x = told("a:" + rows(12));
      due("the last", x.cell(0, 11, 0), 11);
      due("behind it", x.cell(0, 12, 0), NO);
    });
    of("P8", "rising by its letters as told", () -> {
      LeapJoin x = told("ba:10,0/9,99/9,10/0,5");
      int[][] want = {{0, 5}, {9, 10}, {9, 99}, {10, 0}};
      for (int order : new int[] {1, 23}) {
        x.order(order);
        for (int i = 0; i < 4; i++) for (int k = 0; k < 2; k++) due("cell(0, " + i + ", " + k + ")", x.cell(0, i, k), want[i][k]);
      }
      x.put(0, 0, 4, NO);
      due("put ahead", x.cell(0, 0, 1), 4);
      x.put(0, 10, 1, NO);
      due("put behind", x.cell(0, 5, 1), 1);
      x.take(0, 0, 4, NO);
      due("taken away", x.cell(0, 0, 1), 5);
      due("the last", x.cell(0, 4, 1), 1);
      due("no more", x.cell(0, 5, 1), NO);
    });
  }

  private static void promisesOfTheJoin() {
    of("P9", "NONE: no TABLES", () -> {
      refused(Boundaries::made, "rows()", x -> x.rows(), NO);
      due("no rows", told("a:").rows(), 0);
      due("a fault is no table", bothTexts("a:1;", 0).rows(), NO);
    });
    of("P10", "NONE: no such ones", () -> {
      refused(Boundaries::made, "row(0, 0)", x -> x.row(0, 0), NO);
      for (int i : new int[] {-1, 2, 3, MIN, MAX}) refused(Boundaries::busy, "row(" + i + ", 0)", x -> x.row(i, 0), NO);
      for (int k : new int[] {-1, 4, 5, 32, MIN, MAX}) refused(Boundaries::busy, "row(0, " + k + ")", x -> x.row(0, k), NO);
      due("the first", busy().row(0, 0), 1);
      due("the last", busy().row(1, 0), 1);
      due("of no rows", told("a:").row(0, 0), NO);
      LeapJoin x = told("a:1/2");
      x.take(0, 2, NO, NO);
      due("one that is gone", x.row(1, 0), NO);
    });
    of("P10", "the letter is not asked", () -> {
      LeapJoin x = told("a:1;b:2;d:0");
      due("never", x.row(0, 2), NO);
      due("asked", x.row(0, 3), 0);
      x.use(2);
      due("not any more", x.row(0, 3), NO);
      x.use(2);
      due("again", x.row(0, 3), 0);
    });
    of("P11", "NONE: no TABLES", () -> { refused(Boundaries::made, "leaps()", x -> x.leaps(), NO); due("none to be made", told("a:").leaps(), 0); });
    of("P12", "NONE: no TABLES", () -> { for (int n = -1; n < 6; n++) { int k = n; refused(Boundaries::made, "beginnings(" + n + ")", x -> x.beginnings(k), NO); } });
    of("P12", "n out of bounds", () -> {
      for (int n : new int[] {0, -1, 4, 5, MIN, MAX}) refused(Boundaries::busy, "beginnings(" + n + ")", x -> x.beginnings(n), NO);
      LeapJoin x = told("ab:1,2;bc:2,3;d:4");
      due("four", x.beginnings(4), 1);
      due("five", x.beginnings(5), NO);
      x.use(2);
      due("three", x.beginnings(3), 1);
      due("four", x.beginnings(4), NO);
      x.use(1);
      due("two", x.beginnings(2), 1);
      due("three", x.beginnings(3), NO);
      x = told("d:1/2");
      due("one", x.beginnings(1), 2);
      due("two", x.beginnings(2), NO);
      due("zero", x.beginnings(0), NO);
      due("none met is not out of bounds", told("a:").beginnings(1), 0);
    });
    of("P13", "NONE: no TABLES", () -> { for (int w : new int[] {0, 1, 2}) refused(Boundaries::made, "best(" + w + ")", x -> x.best(w), NO); });
    of("P13", "no such what", () -> { for (int w : new int[] {-1, 2, MIN, MAX}) refused(Boundaries::busy, "best(" + w + ")", x -> x.best(w), NO); });
    of("P14", "NONE: no TABLES", () -> { refused(Boundaries::made, "plain()", x -> x.plain(), NO); due("no rows", told("a:").plain(), 0); });
    of("P15", "NONE: no such TABLE", () -> {
      for (int t : new int[] {-1, 0, 1, 4}) refused(Boundaries::made, "given(" + t + ")", x -> x.given(t), NO);
      for (int t : new int[] {-1, 4, 32, MIN, MAX}) refused(Boundaries::busy, "given(" + t + ")", x -> x.given(t), NO);
      due("the last", busy().given(3), 0);
      due("one alone", told("a:1").given(1), NO);
      due("none given is none refused", told("a:").given(0), 0);
    });
    of("P16", "NONE: no such TABLE", () -> {
      for (int t : new int[] {-1, 0, 1, 4}) refused(Boundaries::made, "without(" + t + ")", x -> x.without(t), NO);
      for (int t : new int[] {-1, 4, 32, MIN, MAX}) refused(Boundaries::busy, "without(" + t + ")", x -> x.without(t), NO);
      due("of two", told("a:1;b:1").without(2), NO);
    });
    of("P16", "as told", () -> {
      refused(() -> told("a:1"), "without(0)", x -> x.without(0), NO);
      refused(() -> { LeapJoin x = told("a:1;b:1/2"); x.use(0); return x; }, "without(1)", x -> x.without(1), NO);
      LeapJoin x = told("a:1;b:1/2");
      due("another is", x.without(0), 2);
      x.use(1);
      due("one that is not", x.without(1), 1);
    });
    of("P17", "NONE: no TABLES", () -> { for (int p = 0; p < 17; p++) { int q = p; refused(Boundaries::made, "projected(" + p + ")", x -> x.projected(q), NO); } });
    of("P17", "letters are none (1 .. 15)", () -> {
      for (int p : new int[] {0, -1, 16, 17, 31, 32, MIN, MAX}) refused(Boundaries::busy, "projected(" + p + ")", x -> x.projected(p), NO);
      LeapJoin x = told("abc:1,2,3;d:4");
      for (int p = 1; p < 16; p++) due("projected(" + p + ")", x.projected(p), 1);
    });
    of("P17", "one is not asked", () -> {
      LeapJoin x = told("a:1;b:2;c:3;d:4");
      for (int t = 0; t < 4; t++) {
        x.use(t);
        for (int p = 1; p < 16; p++) due("projected(" + p + ") without " + t, x.projected(p), (p >> t & 1) == 1 ? NO : 1);
        x.use(t);
      }
    });
    of("P18", "NONE: no TABLES", () -> refused(Boundaries::made, "times(0, 0)", x -> x.times(0, 0), NO));
    of("P18", "no such letter asked", () -> {
      for (int k : new int[] {-1, 3, 4, 32, MIN, MAX}) refused(Boundaries::busy, "times(" + k + ", 0)", x -> x.times(k, 0), NO);
      LeapJoin x = told("a:1;d:2");
      x.use(1);
      due("not any more", x.times(3, 2), NO);
      due("no such number is 0", x.times(0, 2), 0);
    });
    of("P19", "NONE: no TABLES", () -> { for (int w = 0; w < 4; w++) { int what = w; refused(Boundaries::made, "distinct(0, " + w + ")", x -> x.distinct(0, what), NO); } });
    of("P19", "no such letter asked", () -> {
      for (int k : new int[] {-1, 3, 4, 32, MIN, MAX}) for (int w = 0; w < 4; w++) { int what = w; refused(Boundaries::busy, "distinct(" + k + ", " + w + ")", x -> x.distinct(k, what), NO); }
    });
    of("P19", "no such what", () -> { for (int w : new int[] {-1, 4, MIN, MAX}) refused(Boundaries::busy, "distinct(0, " + w + ")", x -> x.distinct(0, w), NO); });
    of("P19", "1 to 3: no rows", () -> {
      for (int w = 0; w < 4; w++) { int what = w; refused(Boundaries::empty, "distinct(1, " + w + ")", x -> x.distinct(1, what), w == 0 ? 0 : NO); }
      LeapJoin x = told("a:0");
      for (int w = 0; w < 4; w++) due("one row of 0", x.distinct(0, w), w == 0 ? 1 : 0);
      x.take(0, 0, NO, NO);
      for (int w = 0; w < 4; w++) due("no rows any more", x.distinct(0, w), w == 0 ? 0 : NO);
    });
    of("P20", "False: no such letters asked, too", () -> {
      refused(Boundaries::made, "tells(0, 0)", x -> x.tells(0, 0) ? 1 : 0, 0);
      for (int k : new int[] {-1, 3, 4, 32, MIN, MAX}) {
        refused(Boundaries::busy, "tells(0, " + k + ")", x -> x.tells(0, k) ? 1 : 0, 0);
        refused(Boundaries::busy, "tells(" + k + ", 0)", x -> x.tells(k, 0) ? 1 : 0, 0);
        refused(Boundaries::busy, "tells(" + k + ", " + k + ")", x -> x.tells(k, k) ? 1 : 0, 0);
        refused(Boundaries::empty, "tells(" + k + ", 0)", x -> x.tells(k, 0) ? 1 : 0, 0);
      }
      due("no rows, asked ones", empty().tells(1, 0), true);
    });
    of("P21", "NONE: no TABLES", () -> refused(Boundaries::made, "behind(-1, -1, -1, -1)", x -> x.behind(NO, NO, NO, NO), NO));
    of("P21", "there is none", () -> {
      refused(Boundaries::busy, "behind(1, 3, 5, 0)", x -> x.behind(1, 3, 5, 0), NO);
      refused(Boundaries::busy, "behind(MAX, MAX, MAX, MAX)", x -> x.behind(MAX, MAX, MAX, MAX), NO);
      refused(Boundaries::empty, "behind(-1, -1, -1, -1)", x -> x.behind(NO, NO, NO, NO), NO);
      due("one", told("a:0").behind(-1, 0, 0, 0), 0);
      due("itself", told("a:0").behind(0, 0, 0, 0), NO);
    });
    of("P21", "which row (0 on)", () -> {
      LeapJoin x = told("a:" + rows(12));
      for (int n = -1; n < 12; n++) due("behind(" + n + ")", x.behind(n, 0, 0, 0), n == 11 ? NO : n + 1);
    });
    of("P22", "HAS", () -> {
      refused(Boundaries::made, "has(0, 0, 0, 0)", x -> x.has(0, 0, 0, 0) ? 1 : 0, 0);
      refused(Boundaries::empty, "has(0, 0, 0, 0)", x -> x.has(0, 0, 0, 0) ? 1 : 0, 0);
      LeapJoin x = told("ab:0,99/99,0");
      due("the first", x.has(0, 99, 5, 5), true);
      due("the last", x.has(99, 0, 5, 5), true);
      due("not as a row", x.has(99, 99, 5, 5), false);
      due("not as a row", x.has(0, 0, 5, 5), false);
      for (int n : new int[] {-1, 100, 128, 99 + 128, 256, MIN, MAX}) { due("has", x.has(n, 0, 0, 0), false); due("has", x.has(0, n, 0, 0), false); }
    });
  }

  private static LeapJoin bothTexts(String text, int sort) { LeapJoin x = fed(text); x.text(sort); return x; }

  private static void hidden(String name, ToLongFunction<LeapJoin> none, ToLongBiFunction<LeapJoin, Integer> f) {
    refused(Boundaries::made, name + " without tables", none, HID);
    for (int k : new int[] {-1, 3, 4, 32, MIN, MAX}) refused(Boundaries::busy, name + " of " + k, x -> f.applyAsLong(x, k), HID);
    for (int k = 0; k < 2; k++) { int letter = k; refused(Boundaries::empty, name + " of no rows", x -> f.applyAsLong(x, letter), HID); }
    LeapJoin x = told("a:1;d:2");
    due(name + " of one asked", f.applyAsLong(x, 3) != HID, true);
    x.use(1);
    due(name + " of one not asked any more", f.applyAsLong(x, 3), HID);
  }

  private static void promisesOfMeans() {
    of("P23", "HIDDEN: no TABLES", () -> { for (int k = -1; k < 5; k++) { int letter = k; refused(Boundaries::made, "mean(" + k + ")", x -> x.mean(letter), HID); } });
    of("P23", "no such letter asked", () -> {
      for (int k : new int[] {-1, 3, 4, 32, MIN, MAX}) refused(Boundaries::busy, "mean(" + k + ")", x -> x.mean(k), HID);
      LeapJoin x = told("a:1;d:2");
      x.use(1);
      due("not any more", x.mean(3), HID);
    });
    of("P23", "no rows", () -> {
      for (int k = 0; k < 2; k++) { int letter = k; refused(Boundaries::empty, "mean(" + k + ")", x -> x.mean(letter), HID); }
      LeapJoin x = told("a:0");
      due("a mean of 0 is one", x.mean(0), 0);
      x.take(0, 0, NO, NO);
      due("no rows any more", x.mean(0), HID);
    });
    of("P24", "HIDDEN: as mean()", () -> { for (int w = 0; w < 2; w++) { int what = w; hidden("meanAs(.., " + w + ")", x -> x.meanAs(0, what), (x, k) -> x.meanAs(k, what)); } });
    of("P24", "no such what", () -> { for (int w : new int[] {-1, 2, MIN, MAX}) refused(Boundaries::busy, "meanAs(0, " + w + ")", x -> x.meanAs(0, w), HID); });
    of("P25", "HIDDEN: as mean()", () -> hidden("spread", x -> x.spread(0), (x, k) -> x.spread(k)));
    of("P26", "HIDDEN: as mean()", () -> hidden("skew", x -> x.skew(0), (x, k) -> x.skew(k)));
  }

  private static void promisesOfActs() {
    of("P27", "NONE: no such TABLE (STATUS 0)", () -> {
      refused(Boundaries::made, "put(0, 1, -1, -1)", x -> x.put(0, 1, NO, NO), NO, 0);
      for (int t : new int[] {-1, 4, 32, MIN, MAX}) refused(Boundaries::busy, "put(" + t + ", 1, 2, -1)", x -> x.put(t, 1, 2, NO), NO, 0);
      for (int t : new int[] {-1, 1, 2, 3}) refused(() -> told("a:1"), "put(" + t + ", 2, -1, -1)", x -> x.put(t, 2, NO, NO), NO, 0);
      due("one not used is one", busy().put(3, 8, NO, NO), 2);
    });
    of("P27", "a number not -1 .. 99", () -> {
      for (int n : new int[] {-2, 100, 127, 128, MIN, MAX}) {
        refused(Boundaries::busy, "put(0, " + n + ", 1, -1)", x -> x.put(0, n, 1, NO), NO, 1);
        refused(Boundaries::busy, "put(0, 1, " + n + ", -1)", x -> x.put(0, 1, n, NO), NO, 1);
        refused(Boundaries::busy, "put(0, 1, 1, " + n + ")", x -> x.put(0, 1, 1, n), NO, 1);
        refused(Boundaries::busy, "put(3, 1, -1, " + n + ")", x -> x.put(3, 1, NO, n), NO, 1);
      }
      LeapJoin x = told("a:1;ab:;abc:");
      for (int n : new int[] {0, 99}) {
        due("put", x.put(0, n, NO, NO), n == 0 ? 2 : 3);
        due("put", x.put(1, n, n, NO), n == 0 ? 1 : 2);
        due("put", x.put(2, n, n, n), n == 0 ? 1 : 2);
      }
    });
    of("P27", "not as many as letters (1)", () -> {
      int[][] bad = {{0, NO, NO, NO}, {0, 1, 1, NO}, {0, 1, NO, 1}, {0, NO, 1, NO}, {0, NO, NO, 1}, {0, 1, 1, 1}, {0, 1, 0, 0},
          {1, 1, NO, NO}, {1, NO, 1, NO}, {1, 1, 1, 1}, {1, 1, NO, 1}, {1, NO, NO, NO}, {1, NO, 1, 1}, {1, 1, 1, 0},
          {2, 1, 1, NO}, {2, 1, NO, 1}, {2, NO, 1, 1}, {2, 1, NO, NO}, {2, NO, NO, NO}};
      for (int[] b : bad) refused(() -> told("a:7;bc:7,7;dab:7,7,7"), "put(" + b[0] + ", " + b[1] + ", " + b[2] + ", " + b[3] + ")", x -> x.put(b[0], b[1], b[2], b[3]), NO, 1);
    });
    of("P27", "it has it (2)", () -> {
      refused(() -> told("a:0/99;bc:0,0"), "put(0, 0, -1, -1)", x -> x.put(0, 0, NO, NO), NO, 2);
      refused(() -> told("a:0/99;bc:0,0"), "put(0, 99, -1, -1)", x -> x.put(0, 99, NO, NO), NO, 2);
      refused(() -> told("a:0/99;bc:0,0"), "put(1, 0, 0, -1)", x -> x.put(1, 0, 0, NO), NO, 2);
      due("another table has it", told("a:1;a:").put(1, 1, NO, NO), 1);
      due("its contrary", told("ab:1,2").put(0, 2, 1, NO), 2);
    });
    of("P27", "12 ROWS (3)", () -> {
      refused(Boundaries::full, "put(0, 99, -1, -1)", x -> x.put(0, 99, NO, NO), NO, 3);
      refused(Boundaries::full, "put(0, 12, -1, -1)", x -> x.put(0, 12, NO, NO), NO, 3);
      LeapJoin x = full();
      due("the other table is not full", x.put(1, 99, NO, NO), 2);
      for (int i = 3; i <= 12; i++) due("put", x.put(1, 10 + i, NO, NO), i);
      due("full, too", x.put(1, 50, NO, NO), NO);
      due("status(3)", x.status(3), 1);
      due("the join", x.rows(), 144);
    });
    of("P28", "NONE: no such TABLE (STATUS 0)", () -> {
      refused(Boundaries::made, "take(0, 1, -1, -1)", x -> x.take(0, 1, NO, NO), NO, 0);
      for (int t : new int[] {-1, 4, 32, MIN, MAX}) refused(Boundaries::busy, "take(" + t + ", 1, 2, -1)", x -> x.take(t, 1, 2, NO), NO, 0);
      due("one not used is one", busy().take(3, 7, NO, NO), 0);
    });
    of("P28", "as put() (1)", () -> {
      int[][] bad = {{0, 100, NO, NO}, {0, -2, NO, NO}, {0, NO, NO, NO}, {0, 7, 7, NO}, {0, 7, 0, NO}, {0, 7, NO, 0}, {1, 7, NO, NO}, {1, 7, 7, 7}, {1, 7, 100, NO},
          {1, NO, 7, NO}, {1, MIN, 7, NO}, {2, 7, 7, NO}, {2, 7, 7, 100}, {2, 7, 7, -2}, {2, MAX, 7, 7}};
      for (int[] b : bad) refused(() -> told("a:7;bc:7,7;dab:7,7,7"), "take(" + b[0] + ", " + b[1] + ", " + b[2] + ", " + b[3] + ")", x -> x.take(b[0], b[1], b[2], b[3]), NO, 1);
      LeapJoin x = told("a:0/99;bc:0,99");
      due("0", x.take(0, 0, NO, NO), 1);
      due("99", x.take(0, 99, NO, NO), 0);
      due("0 and 99", x.take(1, 0, 99, NO), 0);
    });
    of("P28", "it has it not (2)", () -> {
      refused(Boundaries::busy, "take(0, 2, 1, -1)", x -> x.take(0, 2, 1, NO), NO, 2);
      refused(Boundaries::empty, "take(0, 0, 0, -1)", x -> x.take(0, 0, 0, NO), NO, 2);
      refused(Boundaries::full, "take(0, 12, -1, -1)", x -> x.take(0, 12, NO, NO), NO, 2);
      refused(() -> told("a:1;a:"), "take(1, 1, -1, -1)", x -> x.take(1, 1, NO, NO), NO, 2);
      LeapJoin x = told("a:1/2");
      due("take", x.take(0, 1, NO, NO), 1);
      due("take", x.take(0, 1, NO, NO), NO);
      due("the last one", x.take(0, 2, NO, NO), 0);
      String all = rows(12);
      LeapJoin y = told("a:" + all + ";b:" + all + ";c:" + all + ";d:" + all);
      for (int i = 11; i >= 0; i--) due("of a full last table", y.take(3, 11 - i, NO, NO), i);
      for (int i = 11; i >= 0; i--) due("of a full first table", y.take(0, i, NO, NO), i);
      due("the others stay", y.rule(4), 24);
      due("take", x.take(0, 2, NO, NO), NO);
      due("rows()", x.rows(), 0);
    });
    of("P29", "NONE: no such TABLE (STATUS 0)", () -> {
      for (int t : new int[] {-1, 0, 1, 4}) refused(Boundaries::made, "use(" + t + ")", x -> x.use(t), NO, 0);
      for (int t : new int[] {-1, 4, 31, 32, MIN, MAX}) refused(Boundaries::busy, "use(" + t + ")", x -> x.use(t), NO, 0);
      refused(() -> told("a:;b:"), "use(2)", x -> x.use(2), NO, 0);
    });
    of("P29", "it is the only one (2)", () -> {
      refused(() -> told("a:1"), "use(0)", x -> x.use(0), NO, 2);
      for (int t = 0; t < 4; t++) {
        int only = t;
        refused(() -> { LeapJoin x = told("a:1;b:1;c:1;d:1"); for (int u = 0; u < 4; u++) if (u != only) x.use(u); return x; }, "use(" + t + ")", x -> x.use(only), NO, 2);
      }
      LeapJoin x = told("a:1;b:1");
      due("not any more", x.use(1), 0);
      due("it is then", x.use(1), 1);
      due("the other", x.use(0), 0);
    });
    of("P30", "NONE: no TABLES (STATUS 0)", () -> { for (int o : new int[] {-1, 0, 1, 23, 24}) refused(Boundaries::made, "order(" + o + ")", x -> x.order(o), NO, 0); });
    of("P30", "not 0 .. 23 (1)", () -> {
      for (int o : new int[] {-1, 24, 25, MIN, MAX}) refused(Boundaries::busy, "order(" + o + ")", x -> x.order(o), NO, 1);
      LeapJoin x = told("a:1");
      due("23", x.order(23), 0);
      due("0", x.order(0), 23);
      due("what it was", x.order(1), 0);
    });
    of("P30", "it is so (2)", () -> {
      refused(() -> told("a:1"), "order(0)", x -> x.order(0), NO, 2);
      refused(Boundaries::busy, "order(8)", x -> x.order(8), NO, 2);
      // another order of the same letters asked is another one
      due("order(1)", told("a:1").order(1), 0);
    });
    of("P31", "NONE: no TABLES", () -> { for (int n : new int[] {0, 1, 40, 41}) refused(Boundaries::made, "ways(" + n + ", 1)", x -> x.ways(n, 1), NO); });
    of("P31", "out of bounds", () -> {
      for (int n : new int[] {0, -1, 41, 42, MIN, MAX}) for (long seed : new long[] {0, 1, Long.MIN_VALUE}) refused(Boundaries::busy, "ways(" + n + ", " + seed + ")", x -> x.ways(n, seed), NO);
      due("1", told("a:").ways(1, 3) != NO, true);
      due("40", told("a:").ways(40, 3) != NO, true);
    });
    of("P32", "NONE: no such what", () -> {
      for (int w : new int[] {-1, 4, MIN, MAX}) { refused(Boundaries::made, "status(" + w + ")", x -> x.status(w), NO); refused(Boundaries::busy, "status(" + w + ")", x -> x.status(w), NO); }
      LeapJoin x = full();
      x.put(9, 1, NO, NO);
      for (int i = 0; i < 2; i++) x.put(0, 100, NO, NO);
      for (int i = 0; i < 3; i++) x.put(0, 1, NO, NO);
      for (int i = 0; i < 4; i++) x.put(0, 50, NO, NO);
      for (int w = 0; w < 4; w++) due("status(" + w + ")", x.status(w), w + 1);
    });
    of("P33", "NONE: none", () -> {
      refused(Boundaries::made, "undo()", x -> x.undo(), NO);
      refused(() -> told("a:1"), "undo()", x -> x.undo(), NO);
      refused(() -> { LeapJoin x = busy(); x.back(); return x; }, "undo()", x -> x.undo(), NO);
      LeapJoin x = told("a:1");
      x.order(0);
      due("a refused one is none", x.undo(), NO);
      x.order(1);
      due("one", x.undo(), 0);
      due("none", x.undo(), NO);
      due("none", x.undo(), NO);
    });
    of("P34", "HIDDEN: no such ones", () -> {
      for (int w = -1; w < 4; w++) { int what = w; refused(Boundaries::made, "log(0, " + w + ")", x -> x.log(0, what), HID); }
      for (int i : new int[] {-1, 5, 6, 60, 61, MIN, MAX}) for (int w = 0; w < 3; w++) { int what = w; refused(Boundaries::busy, "log(" + i + ", " + w + ")", x -> x.log(i, what), HID); }
      for (int w : new int[] {-1, 3, 4, MIN, MAX}) refused(Boundaries::busy, "log(0, " + w + ")", x -> x.log(0, w), HID);
      LeapJoin x = busy();
      for (int i = 0; i < 5; i++) for (int w = 0; w < 3; w++) due("log(" + i + ", " + w + ") is there", x.log(i, w) != HID, true);
    });
    of("P34", "the latest (i 0), the one ahead of it (1)", () -> {
      LeapJoin x = told("a:1");
      x.order(5);
      due("the latest", x.log(0, 1), 5);
      due("none ahead", x.log(1, 1), HID);
      x.order(6);
      due("the latest", x.log(0, 1), 6);
      due("the one ahead", x.log(1, 1), 5);
      x.undo();
      due("the latest", x.log(0, 1), 5);
      due("none ahead", x.log(1, 1), HID);
    });
    of("P35", "NONE: as put() would be refused", () -> {
      for (int w = 0; w < 2; w++) {
        int what = w;
        refused(Boundaries::made, "would(0, 1, -1, -1)", x -> x.would(0, 1, NO, NO, what), NO);
        int[][] bad = {{-1, 1, 1, NO}, {4, 1, 1, NO}, {MIN, 1, 1, NO}, {MAX, 1, 1, NO}, {0, 100, 1, NO}, {0, 1, -2, NO}, {0, 1, 1, 100}, {0, 1, NO, NO}, {0, 1, 1, 0}, {0, NO, 1, NO}, {0, 1, 2, NO}};
        for (int[] b : bad) refused(Boundaries::busy, "would(" + b[0] + ", " + b[1] + ", " + b[2] + ", " + b[3] + ", " + w + ")", x -> x.would(b[0], b[1], b[2], b[3], what), NO);
        refused(Boundaries::full, "would(0, 50, -1, -1, " + w + ")", x -> x.would(0, 50, NO, NO, what), NO);
        refused(Boundaries::full, "would(0, 5, -1, -1, " + w + ")", x -> x.would(0, 5, NO, NO, what), NO);
      }
      due("0 and 99 can be", told("ab:").would(0, 0, 99, NO, 0), 1);
    });
    of("P35", "no such what", () -> {
      for (int w : new int[] {-1, 2, MIN, MAX}) { refused(Boundaries::busy, "would(0, 9, 9, -1, " + w + ")", x -> x.would(0, 9, 9, NO, w), NO); refused(Boundaries::made, "would(0, 9, -1, -1, " + w + ")", x -> x.would(0, 9, NO, NO, w), NO); }
    });
  }

  private static void promisesOfScripts() {
    of("P36", "2 to 4 its ROW (NONE: there are fewer)", () -> {
      LeapJoin x = scripted("", "p1:0;t2:0,99;p3:1,2,3;u4;o5;o0;u0;t9:99,98,97");
      int[][] want = {{0, 1, 0, NO, NO}, {1, 2, 0, 99, NO}, {0, 3, 1, 2, 3}, {2, 4, NO, NO, NO}, {3, 5, NO, NO, NO}, {3, 0, NO, NO, NO}, {2, 0, NO, NO, NO}, {1, 9, 99, 98, 97}};
      for (int i = 0; i < 8; i++) for (int w = 0; w < 5; w++) due("step(0, " + i + ", " + w + ")", x.step(0, i, w), want[i][w]);
      // fewer than in the script ahead of it, at the same place
      script(x, "u3;p0:7");
      for (int w = 0; w < 5; w++) { due("step(1, 0, " + w + ")", x.step(1, 0, w), new int[] {2, 3, NO, NO, NO}[w]); due("step(1, 1, " + w + ")", x.step(1, 1, w), new int[] {0, 0, 7, NO, NO}[w]); }
    });
    of("P36", "HIDDEN: no such ones", () -> {
      refused(Boundaries::made, "step(0, 0, 0)", x -> x.step(0, 0, 0), HID);
      for (int n : new int[] {-1, 1, 2, 3, 4, MIN, MAX}) refused(Boundaries::busy, "step(" + n + ", 0, 0)", x -> x.step(n, 0, 0), HID);
      for (int n : new int[] {-1, 2, 11, 12, 13, MIN, MAX}) refused(Boundaries::busy, "step(0, " + n + ", 0)", x -> x.step(0, n, 0), HID);
      for (int n : new int[] {-1, 5, 6, MIN, MAX}) refused(Boundaries::busy, "step(0, 0, " + n + ")", x -> x.step(0, 0, n), HID);
      LeapJoin x = scripted("", times(12, "o1", ";"), "o2");
      due("the twelfth", x.step(0, 11, 1), 1);
      due("of one step the second", x.step(1, 1, 1), HID);
    });
    of("P37", "behind how many (0; NONE: all can be), rows of the JOIN (1)", () -> {
      LeapJoin x = scripted("a:1/2", "p0:3;o0", "o0", "p0:3", times(5, "o1;o0", ";") + ";o1;o1");
      due("the last can't be", x.run(0, 0), 1);
      due("rows", x.run(0, 1), 3);
      due("the first can't be", x.run(1, 0), 0);
      due("rows", x.run(1, 1), 2);
      due("all can be", x.run(2, 0), NO);
      due("rows", x.run(2, 1), 3);
      due("the twelfth can't be", x.run(3, 0), 11);
      due("rows", x.run(3, 1), 2);
      due("nothing is done", x.rule(4), 2);
    });
    of("P37", "HIDDEN: no such SCRIPT", () -> {
      for (int n : new int[] {-1, 1, 2, 3, 4, MIN, MAX}) for (int w = 0; w < 2; w++) { int what = w; refused(Boundaries::busy, "run(" + n + ", " + w + ")", x -> x.run(n, what), HID); }
      refused(() -> told("a:1"), "run(0, 0)", x -> x.run(0, 0), HID);
    });
    of("P37", "no TABLES", () -> { for (int w = 0; w < 2; w++) { int what = w; refused(() -> scripted("", "o1"), "run(0, " + w + ")", x -> x.run(0, what), HID); } });
    of("P37", "no such what", () -> { for (int w : new int[] {-1, 2, MIN, MAX}) refused(Boundaries::busy, "run(0, " + w + ")", x -> x.run(0, w), HID); });
    of("P38", "NONE: no such SCRIPT", () -> {
      for (int n : new int[] {-1, 1, 2, 3, 4, MIN, MAX}) refused(Boundaries::busy, "perform(" + n + ")", x -> x.perform(n), NO);
      refused(() -> told("a:1"), "perform(0)", x -> x.perform(0), NO);
    });
    of("P38", "no TABLES", () -> refused(() -> scripted("", "o1"), "perform(0)", x -> x.perform(0), NO));
    of("P38", "how many STEPS were done", () -> {
      LeapJoin x = scripted("a:1/2;b:1", "o0", "o1;p0:3", times(12, "u1", ";"), "o2;p0:3;o3");
      due("none", x.perform(0), 0);
      due("no act", x.count(3), 0);
      due("all", x.perform(1), 2);
      due("twelve", x.perform(2), 12);
      due("one of three", x.perform(3), 1);
      due("acts", x.count(3), 15);
    });
  }

  private static void promisesOfTheRest() {
    of("P39", "the TABLE with most ROWS (1), with most GIVEN (2) (of several the lowest, both)", () -> {
      due("all alike", told("a:1;a:2;a:3").most(1), 0);
      due("all alike", told("a:1;a:2;a:3").most(2), 0);
      due("none at all", told("a:;b:").most(1), 0);
      LeapJoin x = told("a:9;a:1/9;a:2/9");
      due("the second of two", x.most(1), 1);
      due("each one", x.most(2), 0);
      x = told("b:1;a:1/2/3;a:1/2/8;a:1/2");
      due("rows", x.most(1), 1);
      due("given: two of each behind the first", x.most(2), 1);
      x.use(1);
      due("rows, used or not", x.most(1), 1);
      due("given, not of one that is not used", x.most(2), 2);
      x = told("a:1/2/3;ab:1,1/1,2");
      due("more given by a table with fewer rows", x.most(2), 1);
      due("more rows", x.most(1), 0);
      due("the last", told("a:;b:;c:;d:1").most(1), 3);
    });
    of("P39", "Numbers of all ROWS added up (0)", () -> {
      due("none", told("a:").most(0), 0);
      LeapJoin x = told("a:99;bcd:99,99,99/0,0,0");
      due("used", x.most(0), 396);
      x.use(1);
      due("or not", x.most(0), 396);
      x.take(1, 99, 99, 99);
      due("the last row taken away", x.most(0), 99);
      x.take(0, 99, NO, NO);
      due("none", x.most(0), 0);
    });
    of("P39", "ROWS of USED TABLES that are not GIVEN (3)", () -> {
      due("none", told("a:1;a:1").most(3), 0);
      LeapJoin x = told("a:1/2;b:;c:1");
      due("all", x.most(3), 3);
      x.use(0);
      due("of used ones", x.most(3), 1);
      x.use(1);
      due("none", x.most(3), 0);
    });
    of("P39", "couples of letters of which the first TELLS the other one (4; unlike ones, asked)", () -> {
      due("one letter", told("a:1/2").most(4), 0);
      due("no rows", told("ab:").most(4), 2);
      due("all four, one row", told("abc:1,2,3;d:4").most(4), 12);
      due("none", told("a:1/2;b:1/2").most(4), 0);
      LeapJoin x = told("ab:1,2/2,3;c:1/2");
      due("a and b", x.most(4), 2);
      x.use(1);
      due("a and b alone", x.most(4), 2);
    });
    of("P39", "LEAPS by ORDER 0 (5), the most LEAPS of any ORDER (6)", () -> {
      LeapJoin x = told("ab:1,1/1,2/1,3;b:9");
      x.order(6);
      due("as it is", x.leaps(), 1);
      due("by order 0", x.most(5), 2);
      due("the most", x.most(6), 2);
      x = told("ab:1,1/2,1/3,1;a:9");
      due("by order 0", x.most(5), 1);
      due("the most: b ahead", x.most(6), 2);
      // order 0 alone takes so many, order 1 takes six
      x = told("a:1/2/3;db:3,3;dc:1,1");
      x.best(0);
      x.end(0);
      tell(x, "db:3,3;dc:1,1;ca:1,3/3,2");
      due("by order 0", x.most(5), 7);
      due("the most", x.most(6), 7);
      x.order(1);
      due("by order 1", x.leaps(), 6);
      due("by order 0", x.most(5), 7);
      due("the most", x.most(6), 7);
      x.take(2, 3, 2, NO);
      due("the most, a row less", x.most(6), told("db:3,3;dc:1,1;ca:1,3").most(6));
    });
    of("P39", "HIDDEN: no TABLES", () -> { for (int w = -1; w < 8; w++) { int what = w; refused(Boundaries::made, "most(" + w + ")", x -> x.most(what), HID); } });
    of("P39", "no such what", () -> { for (int w : new int[] {-1, 7, 8, MIN, MAX}) refused(Boundaries::busy, "most(" + w + ")", x -> x.most(w), HID); });
    of("P40", "An IMAGE (instead of the one ahead)", () -> {
      LeapJoin x = told("a:1");
      due("image()", x.image(), 1);
      x.put(0, 2, NO, NO);
      due("image()", x.image(), 2);
      x.put(0, 3, NO, NO);
      due("back()", x.back(), 2);
      due("back()", x.back(), 2);
      due("the acts still can be undone behind an image", imageCount(), 1);
    });
    of("P40", "NONE: no TABLES", () -> {
      refused(Boundaries::made, "image()", x -> x.image(), NO);
      LeapJoin x = new LeapJoin();
      x.image();
      tell(x, "a:1");
      due("none was made", x.back(), NO);
      due("no rows", told("a:").image(), 0);
    });
    of("P41", "NONE: no IMAGE of these TABLES", () -> {
      refused(Boundaries::made, "back()", x -> x.back(), NO);
      refused(() -> { LeapJoin x = told("a:1"); x.put(0, 2, NO, NO); return x; }, "back()", x -> x.back(), NO);
      refused(() -> { LeapJoin x = busy(); x.end(0); tell(x, "a:1"); x.put(0, 2, NO, NO); return x; }, "back()", x -> x.back(), NO);
      // told with the same words they are others
      refused(() -> { LeapJoin x = told("a:1"); x.image(); tell(x, "a:1"); x.put(0, 2, NO, NO); return x; }, "back()", x -> x.back(), NO);
      LeapJoin x = told("a:1");
      x.image();
      feed(x, "a:1;");
      x.text(0);
      due("a fault brings no others", x.back(), 1);
      x.end(0);
      script(x, "o1");
      due("a script brings no others", x.back(), 1);
      due("no rows", imageOfNone(), 0);
    });
    of("P42", "HIDDEN for others", () -> {
      for (int w : new int[] {-1, 5, 6, MIN, MAX}) { refused(Boundaries::made, "count(" + w + ")", x -> x.count(w), HID); refused(Boundaries::busy, "count(" + w + ")", x -> x.count(w), HID); }
      LeapJoin x = busy();
      int[] want = {4, 1, 5, 5, 5};
      for (int w = 0; w < 5; w++) due("count(" + w + ")", x.count(w), want[w]);
    });
  }

  private static int imageCount() { LeapJoin x = told("a:1"); x.order(1); x.image(); return x.count(4); }
  private static int imageOfNone() { LeapJoin x = told("a:"); x.image(); x.put(0, 1, NO, NO); return x.back(); }

  // ---- the words beside the document

  private static String plain(String s) { return s.replaceAll("\\s+", " ").trim(); }

  /** The text of a section of the Terms, of a promise, or of all ahead of them. */
  private static String place(String doc, String place) {
    int from = 0;
    int to = doc.indexOf("## The public face");
    if (place.startsWith("P")) {
      from = doc.indexOf("## Promise " + place.substring(1) + ":");
      to = doc.indexOf("\n## ", from + 1);
    } else if (!place.equals("top")) {
      from = doc.indexOf("==== " + place + ".");
      to = place.equals("4") ? doc.indexOf("\nThe constants:") : doc.indexOf("==== " + (Integer.parseInt(place) + 1) + ".");
    }
    return from < 0 || to < from ? "" : plain(doc.substring(from, to));
  }

  /** The signs of that place that the words of the cases hold. */
  private static boolean[] told(String text, String place) {
    boolean[] held = new boolean[text.length()];
    for (Case c : CASES) {
      if (!c.place.equals(place)) continue;
      for (int i = text.indexOf(c.words); i >= 0; i = text.indexOf(c.words, i + 1)) Arrays.fill(held, i, i + c.words.length(), true);
    }
    return held;
  }

  private static void besideTheDocument(String doc) {
    now = "the document";
    for (Case c : CASES) due("\"" + c.words + "\" stands at " + c.place, place(doc, c.place).contains(c.words), true);
    for (int p = 1; p <= 42; p++) {
      String text = place(doc, "P" + p);
      int from = text.length();
      int behind = text.indexOf("` : ") >= 0 ? text.indexOf("` : ") : Math.max(0, text.indexOf("`: "));
      for (String sign : new String[] {"NONE", "HIDDEN", "False", "-2:", "NoSuchElementException:"}) {
        int i = text.indexOf(sign, behind);
        if (i >= 0) from = Math.min(from, i);
      }
      boolean[] held = told(text, "P" + p);
      StringBuilder left = new StringBuilder();
      for (int i = from; i < text.length(); i++) if (!held[i] && Character.isLetterOrDigit(text.charAt(i))) left.append(text.charAt(i));
      alike("words of promise " + p + " without a test of their own", left.toString(), "");
    }
  }

  static List<String> failures(String doc) {
    CASES.clear();
    FAILURES.clear();
    textsOfTables();
    textsOfScripts();
    faultsOfTexts();
    joins();
    acts();
    asked();
    waysAndImages();
    promisesOfTexts();
    promisesOfTables();
    promisesOfTheJoin();
    promisesOfMeans();
    promisesOfActs();
    promisesOfScripts();
    promisesOfTheRest();
    for (Case c : CASES) {
      now = c.place + ", \"" + c.words + "\"";
      try { c.test.run(); } catch (RuntimeException | StackOverflowError e) { FAILURES.add(now + ": the machine threw " + e); }
    }
    if (doc != null) besideTheDocument(doc);
    return FAILURES;
  }

  public static void main(String[] args) throws Exception {
    Path doc = Path.of(System.getProperty("leapjoin.doc", "../shared/DOC.md"));
    boolean there = Files.isReadable(doc);
    if (!there) System.out.println("the document is not there: the words are not looked up");
    List<String> failures = failures(there ? Files.readString(doc) : null);
    for (int i = 0; i < Math.min(failures.size(), 40); i++) System.out.println(failures.get(i));
    System.out.println(CASES.size() + " sentences, " + checks + " checks, " + failures.size() + " wrong");
    if (!failures.isEmpty()) System.exit(1);
  }
}
