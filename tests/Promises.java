import java.util.NoSuchElementException;

/** For each promise of the document: ordinary inputs, the edges that it names, wrong inputs. */
public final class Promises {
  private static final int NO = LeapJoin.NONE;
  private static final int HID = LeapJoin.HIDDEN;
  private static int wrong = 0;
  private static int promise = 0;
  private static int checks = 0;

  private static void due(String call, long got, long want) {
    checks++;
    if (got != want) { wrong++; System.out.println("promise " + promise + ": " + call + " answered " + got + ", due is " + want); }
  }
  private static void due(String call, boolean got, boolean want) { due(call, got ? 1 : 0, want ? 1 : 0); }

  /** Feeds a text, twenty signs a call. */
  private static void feed(LeapJoin x, String text) {
    for (int i = 0; i < text.length(); i += 20) {
      int[] w = new int[5];
      for (int k = 0; k < 20 && i + k < text.length(); k++) w[k / 4] |= (text.charAt(i + k) & 255) << 24 - 8 * (k % 4);
      x.feed(w[0], w[1], w[2], w[3], w[4]);
    }
  }
  private static LeapJoin told(String tables) {
    LeapJoin x = new LeapJoin();
    tell(x, tables);
    return x;
  }
  private static void tell(LeapJoin x, String tables) {
    feed(x, tables);
    due("text(0) of " + tables, x.text(0) > 0, true);
  }
  private static void script(LeapJoin x, String steps) {
    feed(x, steps);
    due("text(1) of " + steps, x.text(1) >= 0, true);
  }
  private static void fault(int sort, String text, int want) {
    LeapJoin x = new LeapJoin();
    feed(x, text);
    due("fault(" + sort + ") of \"" + text + "\"", x.fault(sort), want);
    due("the tape behind fault() of \"" + text + "\"", x.count(2), text.length());
    if (want >= 0) {
      due("text(" + sort + ") of \"" + text + "\"", x.text(sort), NO);
      due("the tape behind text() of \"" + text + "\"", x.count(2), text.length());
    }
  }
  private static int thrown(LeapJoin x, int table, int what) {
    try { x.table(table, what); return 0; } catch (NoSuchElementException e) { return 1; }
  }
  private static String rows(int many) {
    StringBuilder s = new StringBuilder();
    for (int i = 0; i < many; i++) s.append(i > 0 ? "/" : "").append(i);
    return s.toString();
  }

  /** a: 1, 3, 5 and 2, 3, 4, 5: found 3 and 5 by five leaps. */
  private static final String TWO = "a:1/3/5;a:2/3/4/5";
  /** A triangle with one row more in each table. */
  private static final String TRIANGLE = "ab:1,2/1,3/2,3/9,9;bc:2,5/3,4/3,5/8,8;ac:1,5/1,4/2,4/7,7";

  private static void newObject() {
    LeapJoin x = new LeapJoin();
    due("count(0)", x.count(0), 0);
    due("count(1)", x.count(1), 0);
    due("count(2)", x.count(2), 0);
    due("count(3)", x.count(3), 0);
    due("count(4)", x.count(4), 0);
    due("rows()", x.rows(), NO);
    for (int i = 0; i < 4; i++) due("status(" + i + ")", x.status(i), 0);
    due("NONE", NO, -1);
    due("HIDDEN", HID, -1000000);
  }

  private static void feeds() {
    LeapJoin x = new LeapJoin();
    due("feed", x.feed(0x61003A00, 0x00310000, 0, 0, 0x2F), 4);
    due("fault(0)", x.fault(0), 4);
    due("feed of nothing", x.feed(0, 0, 0, 0, 0), 4);
    due("feed high bytes", x.feed(0xFFFFFFFF, 0x80808080, -1, -1, -1), 24);
    x = new LeapJoin();
    for (int i = 1; i <= 19; i++) due("feed " + i, x.feed(0x61616161, 0x61616161, 0x61616161, 0x61616161, 0x61616161), 20 * i);
    due("to 399", x.feed(0x61616161, 0x61616161, 0x61616161, 0x61616161, 0x00616161), 399);
    due("402 are too many", x.feed(0x61616100, 0, 0, 0, 0), NO);
    due("nothing came", x.count(2), 399);
    due("to 400", x.feed(0, 0, 0x00006100, 0, 0), 400);
    due("401 are too many", x.feed(0, 0, 0, 0, 1), NO);
    due("none more", x.feed(0, 0, 0, 0, 0), 400);
    x = new LeapJoin();
    for (int i = 1; i <= 19; i++) x.feed(0x61616161, 0x61616161, 0x61616161, 0x61616161, 0x61616161);
    x.feed(0x61616161, 0x61616161, 0x61616161, 0x61616161, 0);
    due("to 396", x.count(2), 396);
    due("401 are too many", x.feed(0x61616161, 0x61, 0, 0, 0), NO);
    due("401 are too many", x.feed(0x61, 0x61616161, 0, 0, 0), NO);
    due("401 are too many", x.feed(0x61, 0, 0x61616161, 0, 0), NO);
    due("401 are too many", x.feed(0x61, 0, 0, 0x61616161, 0), NO);
    due("401 are too many", x.feed(0x61, 0, 0, 0, 0x61616161), NO);
    due("one of each", x.feed(0, 0x61, 0x6100, 0x610000, 0x61000000), 400);
    // of each number the highest byte first
    x = new LeapJoin();
    due("feed", x.feed(0x613A3132, 0, 0, 0, 0), 4);
    due("text(0)", x.text(0), 1);
    due("cell", x.cell(0, 0, 0), 12);
  }

  private static void ends() {
    LeapJoin x = new LeapJoin();
    feed(x, "a:12;b");
    due("end(-1)", x.end(-1), false);
    due("end(7)", x.end(7), false);
    due("end(MAX)", x.end(Integer.MAX_VALUE), false);
    due("end(MIN)", x.end(Integer.MIN_VALUE), false);
    due("count(2)", x.count(2), 6);
    due("end(6)", x.end(6), true);
    due("end(3)", x.end(3), true);
    due("count(2)", x.count(2), 3);
    due("end(4)", x.end(4), false);
    due("text(0)", x.text(0), 1);
    due("cell", x.cell(0, 0, 0), 1);
    due("end(0)", x.end(0), true);
    due("end(1)", x.end(1), false);
  }

  private static void faults() {
    fault(0, "", 0);
    fault(0, "  ", 2);
    fault(0, "a:", NO);
    fault(0, " d c b : ", NO);
    fault(0, "a b:1 , 2 / 03,4 ; c :", NO);
    fault(0, "aba:", 2);
    fault(0, "abcd:", 3);
    fault(0, "a,b:", 1);
    fault(0, ":1", 0);
    fault(0, "A:1", 0);
    fault(0, "a:;", 3);
    fault(0, "a: ;b", 5);
    fault(0, "a:1;;", 4);
    fault(0, "a:/1", 2);
    fault(0, "a:,1", 2);
    fault(0, "a:123", 4);
    fault(0, "a:1 2", 4);
    fault(0, "a:12 3", 5);
    fault(0, "a:1,2", 3);
    fault(0, "ab:1", 4);
    fault(0, "ab:1,", 5);
    fault(0, "ab:1/2,3", 4);
    fault(0, "ab:1;c:", 4);
    fault(0, "ab:1,2,3", 6);
    fault(0, "ab:1,2//", 7);
    fault(0, "abc:1,2,3,4", 9);
    fault(0, "a:1x", 3);
    fault(0, "a:\351", 2);
    fault(0, "a:1\n", 3);
    fault(0, "a:" + rows(12), NO);
    fault(0, "a:" + rows(12) + "/", 27);
    fault(0, "a:1/1/1/1/1/1/1/1/1/1/1/1", NO);
    fault(0, "a:1/1/1/1/1/1/1/1/1/1/1/1 /1", 26);
    fault(0, "a:" + rows(12) + ";b:" + rows(12), NO);
    fault(0, "a:;b:;c:;d:", NO);
    fault(0, "a:;b:;c:;d:;", 11);
    fault(1, "", 0);
    fault(1, " ", 1);
    fault(1, "p0:1", NO);
    fault(1, " t 9 : 1 , 22 , 03 ; u 8 ; o 23 ", NO);
    fault(1, "x", 0);
    fault(1, "p", 1);
    fault(1, "p:", 1);
    fault(1, "p0", 2);
    fault(1, "p00:", 2);
    fault(1, "p0:", 3);
    fault(1, "p0:,", 3);
    fault(1, "t0:1,", 5);
    fault(1, "t0:1,2,3,", 8);
    fault(1, "t0:1 2", 5);
    fault(1, "t0:123", 5);
    fault(1, "t0:1/", 4);
    fault(1, "u", 1);
    fault(1, "u12", 2);
    fault(1, "u1:", 2);
    fault(1, "o", 1);
    fault(1, "o3", NO);
    fault(1, "o03", NO);
    fault(1, "o23", NO);
    fault(1, "o24", 2);
    fault(1, "o99", 2);
    fault(1, "o30", 2);
    fault(1, "o 24", 3);
    fault(1, "o2 4", 3);
    fault(1, "o023", 3);
    fault(1, "o1,", 2);
    fault(1, "u0;", 3);
    fault(1, "u0;;", 3);
    fault(1, "u0;u0;u0;u0;u0;u0;u0;u0;u0;u0;u0;u0", NO);
    fault(1, "u0;u0;u0;u0;u0;u0;u0;u0;u0;u0;u0;u0;", 35);
    LeapJoin x = new LeapJoin();
    due("fault(2)", x.fault(2), -2);
    due("fault(-1)", x.fault(-1), -2);
    due("fault(MIN)", x.fault(Integer.MIN_VALUE), -2);
  }

  private static void texts() {
    LeapJoin x = new LeapJoin();
    feed(x, TWO);
    due("text(2)", x.text(2), NO);
    due("text(-1)", x.text(-1), NO);
    due("text(1) of tables", x.text(1), NO);
    due("text(0)", x.text(0), 2);
    due("tape", x.count(2), 0);
    due("text(0) of nothing", x.text(0), NO);
    due("tables stay", x.count(0), 2);
    for (int i = 0; i < 4; i++) {
      feed(x, "u" + i);
      due("text(1)", x.text(1), i);
      due("tape", x.count(2), 0);
    }
    feed(x, "u0");
    due("a fifth script", x.text(1), NO);
    due("tape", x.count(2), 2);
    due("scripts", x.count(1), 4);
    due("fault(1)", x.fault(1), NO);
    x.end(0);
    x.put(0, 9, NO, NO);
    x.put(0, 9, NO, NO);
    x.use(1);
    x.order(7);
    x.image();
    tell(x, "b:1/1/2/01");
    due("tables", x.count(0), 1);
    due("used", x.rule(1), 1);
    due("order", x.rule(2), 0);
    due("a row told twice", x.rule(4), 2);
    due("log", x.count(3), 0);
    due("undo()", x.undo(), NO);
    due("back()", x.back(), NO);
    due("scripts stay", x.count(1), 4);
    due("status stays", x.status(2), 1);
    due("rows()", x.rows(), 2);
  }

  private static void rules() {
    LeapJoin x = new LeapJoin();
    for (int i = -1; i < 6; i++) due("rule(" + i + ")", x.rule(i), NO);
    tell(x, "bd:1,2;c:;c:3/4");
    due("rule(0)", x.rule(0), 3);
    due("rule(1)", x.rule(1), 7);
    due("rule(2)", x.rule(2), 0);
    due("rule(3)", x.rule(3), 14);
    due("rule(4)", x.rule(4), 3);
    due("rule(5)", x.rule(5), NO);
    due("rule(-1)", x.rule(-1), NO);
    x.use(0);
    x.order(13);
    due("rule(0)", x.rule(0), 3);
    due("rule(1)", x.rule(1), 6);
    due("rule(2)", x.rule(2), 13);
    due("rule(3)", x.rule(3), 4);
    due("rule(4), of all", x.rule(4), 3);
  }

  private static void tables() {
    LeapJoin x = new LeapJoin();
    due("table(0, 0) throws", thrown(x, 0, 0), 1);
    tell(x, "dba:1,2,3/1,2,4;c:");
    due("table(0, 0)", x.table(0, 0), 3);
    due("table(0, 1)", x.table(0, 1), 11);
    due("table(0, 2)", x.table(0, 2), 2);
    due("table(0, 3)", x.table(0, 3), 1);
    due("table(1, 0)", x.table(1, 0), 1);
    due("table(1, 1)", x.table(1, 1), 4);
    due("table(1, 2)", x.table(1, 2), 0);
    x.use(1);
    due("table(1, 3)", x.table(1, 3), 0);
    due("throws", thrown(x, 2, 0), 1);
    due("throws", thrown(x, -1, 0), 1);
    due("throws", thrown(x, 0, 4), 1);
    due("throws", thrown(x, 0, -1), 1);
    due("throws", thrown(x, Integer.MAX_VALUE, 0), 1);
    due("throws not", thrown(x, 1, 3), 0);
  }

  private static void cells() {
    LeapJoin x = new LeapJoin();
    due("cell(0, 0, 0)", x.cell(0, 0, 0), NO);
    tell(x, "ca:5,1/4,9/5,0;b:99/10/9");
    int[][] want = {{4, 9}, {5, 0}, {5, 1}};
    for (int i = 0; i < 3; i++) for (int k = 0; k < 2; k++) due("cell", x.cell(0, i, k), want[i][k]);
    due("cell", x.cell(1, 0, 0), 9);
    due("cell", x.cell(1, 2, 0), 99);
    x.order(23);
    due("cell as told", x.cell(0, 1, 1), 0);
    due("no column", x.cell(0, 0, 2), NO);
    due("no column", x.cell(1, 0, 1), NO);
    due("no column", x.cell(0, 0, -1), NO);
    due("no row", x.cell(0, 3, 0), NO);
    due("no row", x.cell(0, -1, 0), NO);
    due("no table", x.cell(2, 0, 0), NO);
    due("no table", x.cell(-1, 0, 0), NO);
    due("wild", x.cell(Integer.MIN_VALUE, Integer.MAX_VALUE, Integer.MIN_VALUE), NO);
  }

  private static void rowsOfJoin() {
    due("rows()", new LeapJoin().rows(), NO);
    due("rows()", told(TWO).rows(), 2);
    due("rows()", told(TRIANGLE).rows(), 4);
    due("rows()", told("a:;b:1").rows(), 0);
    due("rows()", told("a:1/2;b:3/4/5").rows(), 6);
    String all = rows(12);
    LeapJoin x = told("a:" + all + ";b:" + all + ";c:" + all + ";d:" + all);
    due("the largest", x.rows(), 20736);
    due("row(20735, 3)", x.row(20735, 3), 11);
    due("row(20735, 0)", x.row(20735, 0), 11);
    due("row(20734, 3)", x.row(20734, 3), 10);
    due("row(20736, 3)", x.row(20736, 3), NO);
    due("leaps()", x.leaps(), 12 + 144 + 1728 + 20736);
    due("beginnings(3)", x.beginnings(3), 1728);
    due("projected(10)", x.projected(10), 144);
    due("times(1, 3)", x.times(1, 3), 1728);
    due("behind", x.behind(11, 11, 11, 10), 20735);
    due("best(1)", x.best(1), 12 + 144 + 1728 + 20736);
    due("given(3)", x.given(3), 4095);
  }

  private static void rowOfJoin() {
    LeapJoin x = new LeapJoin();
    due("row(0, 0)", x.row(0, 0), NO);
    tell(x, "ab:1,2/2,1;d:7");
    int[][] want = {{1, 2, NO, 7}, {2, 1, NO, 7}};
    for (int i = 0; i < 2; i++) for (int k = 0; k < 4; k++) due("row(" + i + ", " + k + ")", x.row(i, k), want[i][k]);
    x.order(6);
    for (int i = 0; i < 2; i++) for (int k = 0; k < 4; k++) due("row(" + i + ", " + k + ")", x.row(i, k), want[1 - i][k]);
    due("row(2, 0)", x.row(2, 0), NO);
    due("row(-1, 0)", x.row(-1, 0), NO);
    due("row(0, 4)", x.row(0, 4), NO);
    due("row(0, -1)", x.row(0, -1), NO);
    due("row(0, 32)", x.row(0, 32), NO);
    x.use(1);
    due("not asked any more", x.row(0, 3), NO);
  }

  private static void leapsOfJoin() {
    due("leaps()", new LeapJoin().leaps(), NO);
    due("leaps()", told(TWO).leaps(), 5);
    due("leaps()", told("ab:1,2/2,1").leaps(), 4);
    due("leaps()", told("a:;b:1").leaps(), 0);
    due("leaps()", told("a:1;b:").leaps(), 1);
    // 0 goes to 9 (1); 1 to 9 (2); found; 0 to its end (3)
    due("leaps()", told("a:1/2/3/9;a:4/5/9").leaps(), 3);
    // 0 at 1, 1 at 2, 2 at 3: 0 to 3, 1 to 5, 0 to its end
    due("leaps()", told("a:1/3;a:2/5;a:3/5").leaps(), 3);
    // a: 1 found; b: 0 goes to its end; a: 0 to its end. With b ahead: 0 to its end.
    LeapJoin x = told("ab:1,1/1,2/1,3;b:9");
    due("leaps()", x.leaps(), 2);
    x.order(6);
    due("leaps()", x.leaps(), 1);
    x.use(1);
    due("leaps()", x.leaps(), 6);
  }

  private static void beginningsOfJoin() {
    due("beginnings(1)", new LeapJoin().beginnings(1), NO);
    LeapJoin x = told("ab:1,1/1,2/4,3;bc:2,7/2,8/3,9;d:1");
    due("beginnings(0)", x.beginnings(0), NO);
    due("beginnings(1)", x.beginnings(1), 2);
    due("beginnings(2)", x.beginnings(2), 2);
    due("beginnings(3)", x.beginnings(3), 3);
    due("beginnings(4)", x.beginnings(4), 3);
    due("beginnings(5)", x.beginnings(5), NO);
    due("beginnings(-1)", x.beginnings(-1), NO);
    x = told("a:1/2;b:3/4;c:");
    due("beginnings(1)", x.beginnings(1), 2);
    due("beginnings(2)", x.beginnings(2), 4);
    due("beginnings(3)", x.beginnings(3), 0);
    due("beginnings(4)", x.beginnings(4), NO);
    x.use(2);
    due("beginnings(3)", x.beginnings(3), NO);
    x.use(2);
    x.order(23);
    due("beginnings(1), c ahead", x.beginnings(1), 0);
  }

  private static void bestOrder() {
    due("best(0)", new LeapJoin().best(0), NO);
    LeapJoin x = told("ab:1,1/1,2/1,3;b:9");
    due("best(0)", x.best(0), 6);
    due("best(1)", x.best(1), 1);
    due("best(2)", x.best(2), NO);
    due("best(-1)", x.best(-1), NO);
    due("order stays", x.rule(2), 0);
    due("leaps stay", x.leaps(), 2);
    x.put(1, 1, NO, NO);
    due("best(1), a row more", x.best(1), told("ab:1,1/1,2/1,3;b:9/1").best(1));
    x.undo();
    due("best(1), undone", x.best(1), 1);
    due("alike by all", told("a:1").best(0), 0);
  }

  private static void plainProduct() {
    due("plain()", new LeapJoin().plain(), NO);
    LeapJoin x = told(TWO);
    due("plain()", x.plain(), 12);
    x.use(0);
    due("plain()", x.plain(), 4);
    due("plain()", told("a:;b:1/2").plain(), 0);
  }

  private static void givenRows() {
    due("given(0)", new LeapJoin().given(0), NO);
    LeapJoin x = told(TWO);
    due("given(0)", x.given(0), 6);
    due("given(1)", x.given(1), 10);
    due("given(2)", x.given(2), NO);
    due("given(-1)", x.given(-1), NO);
    x.use(0);
    due("given(0), not used", x.given(0), 0);
    due("given(1)", x.given(1), 15);
    // by place as told, whatever the order is: 1,9 / 2,0 / 2,7
    x = told("ba:2,7/2,0/1,9;a:7/9");
    due("given(0)", x.given(0), 5);
    x.order(9);
    due("given(0)", x.given(0), 5);
    due("given(1)", x.given(1), 3);
  }

  private static void withoutTable() {
    due("without(0)", new LeapJoin().without(0), NO);
    LeapJoin x = told(TWO + ";b:");
    due("without(0)", x.without(0), 0);
    due("without(2)", x.without(2), 2);
    x.use(2);
    due("without(2), not used", x.without(2), 2);
    due("without(0)", x.without(0), 4);
    due("without(1)", x.without(1), 3);
    due("without(3)", x.without(3), NO);
    due("without(-1)", x.without(-1), NO);
    x.use(1);
    due("without the only one", x.without(0), NO);
    due("without(1)", x.without(1), 3);
    due("used stay", x.rule(1), 1);
  }

  private static void projections() {
    due("projected(1)", new LeapJoin().projected(1), NO);
    LeapJoin x = told("ab:1,2/1,3/2,3;d:4/5");
    due("projected(1)", x.projected(1), 2);
    due("projected(2)", x.projected(2), 2);
    due("projected(3)", x.projected(3), 3);
    due("projected(8)", x.projected(8), 2);
    due("projected(10)", x.projected(10), 4);
    due("projected(11)", x.projected(11), 6);
    due("projected(4)", x.projected(4), NO);
    due("projected(15)", x.projected(15), NO);
    due("projected(0)", x.projected(0), NO);
    due("projected(16)", x.projected(16), NO);
    due("projected(17)", x.projected(17), NO);
    due("projected(-1)", x.projected(-1), NO);
    x.order(23);
    due("projected(1)", x.projected(1), 2);
    due("row stays", x.row(0, 0), 1);
    due("none", told("a:1;b:").projected(1), 0);
  }

  private static void timesOfNumbers() {
    due("times(0, 1)", new LeapJoin().times(0, 1), NO);
    LeapJoin x = told("ab:1,2/1,3/2,3;d:0/99");
    due("times(0, 1)", x.times(0, 1), 4);
    due("times(1, 3)", x.times(1, 3), 4);
    due("times(1, 2)", x.times(1, 2), 2);
    due("times(3, 0)", x.times(3, 0), 3);
    due("times(3, 99)", x.times(3, 99), 3);
    due("times(3, 100)", x.times(3, 100), 0);
    due("times(3, 128)", x.times(3, 128), 0);
    due("times(3, -1)", x.times(3, -1), 0);
    due("times(3, MIN)", x.times(3, Integer.MIN_VALUE), 0);
    due("times(2, 0)", x.times(2, 0), NO);
    due("times(4, 0)", x.times(4, 0), NO);
    due("times(-1, 0)", x.times(-1, 0), NO);
  }

  private static void distinctNumbers() {
    due("distinct(0, 0)", new LeapJoin().distinct(0, 0), NO);
    LeapJoin x = told("ab:7,2/7,3/5,3/5,4/9,0");
    due("distinct(0, 0)", x.distinct(0, 0), 3);
    due("distinct(0, 1)", x.distinct(0, 1), 5);
    due("distinct(0, 2)", x.distinct(0, 2), 9);
    due("distinct(0, 3)", x.distinct(0, 3), 5);
    due("distinct(1, 0)", x.distinct(1, 0), 4);
    due("distinct(1, 1)", x.distinct(1, 1), 0);
    due("distinct(1, 2)", x.distinct(1, 2), 4);
    due("distinct(1, 3)", x.distinct(1, 3), 3);
    due("distinct(1, 4)", x.distinct(1, 4), NO);
    due("distinct(1, -1)", x.distinct(1, -1), NO);
    due("distinct(2, 0)", x.distinct(2, 0), NO);
    due("distinct(-1, 0)", x.distinct(-1, 0), NO);
    x = told("a:");
    due("no rows", x.distinct(0, 0), 0);
    for (int w = 1; w < 4; w++) due("no rows", x.distinct(0, w), NO);
    x = told("a:99");
    due("99", x.distinct(0, 2), 99);
    due("99", x.distinct(0, 3), 99);
  }

  private static void tellsWhom() {
    due("tells(0, 0)", new LeapJoin().tells(0, 0), false);
    LeapJoin x = told("ab:1,2/3,2/4,5;d:6");
    due("tells(0, 1)", x.tells(0, 1), true);
    due("tells(1, 0)", x.tells(1, 0), false);
    due("tells(0, 0)", x.tells(0, 0), true);
    due("tells(0, 3)", x.tells(0, 3), true);
    due("tells(3, 0)", x.tells(3, 0), false);
    due("tells(0, 2)", x.tells(0, 2), false);
    due("tells(2, 0)", x.tells(2, 0), false);
    due("tells(2, 2)", x.tells(2, 2), false);
    due("tells(4, 0)", x.tells(4, 0), false);
    due("tells(0, -1)", x.tells(0, -1), false);
    x.use(1);
    due("tells(3, 3)", x.tells(3, 3), false);
    due("no rows", told("ab:;c:1").tells(1, 0), true);
  }

  private static void behindNumbers() {
    due("behind", new LeapJoin().behind(0, 0, 0, 0), NO);
    LeapJoin x = told("ab:1,2/1,4/3,0;d:5");
    due("behind", x.behind(1, 2, 99, 4), 0);
    due("behind itself", x.behind(1, 2, 0, 5), 1);
    due("behind", x.behind(1, 3, 0, 99), 1);
    due("behind", x.behind(2, -7, 0, 0), 2);
    due("behind", x.behind(3, 0, 0, 5), NO);
    due("behind", x.behind(Integer.MIN_VALUE, 0, 0, 0), 0);
    due("behind", x.behind(Integer.MAX_VALUE, 0, 0, 0), NO);
    due("behind", x.behind(3, 0, 0, Integer.MIN_VALUE), 2);
    due("not asked, no matter", x.behind(1, 4, Integer.MAX_VALUE, 5), 2);
    // by b ahead of a: (3, 0), (1, 2), (1, 4)
    x.order(6);
    due("behind", x.behind(3, 0, 0, 5), 1);
    due("behind", x.behind(2, 2, 0, 0), 2);
    due("none", told("a:").behind(-1, 0, 0, 0), NO);
  }

  private static void hasRow() {
    due("has", new LeapJoin().has(0, 0, 0, 0), false);
    LeapJoin x = told("ab:1,2/1,4/3,0;d:5");
    due("has", x.has(1, 4, 0, 5), true);
    due("has", x.has(1, 4, -9, 5), true);
    due("has", x.has(1, 4, 0, 6), false);
    due("has", x.has(3, 4, 0, 5), false);
    due("has", x.has(1 + 128, 4, 0, 5), false);
    due("has", x.has(-1, -1, -1, -1), false);
    due("has", told("a:").has(0, 0, 0, 0), false);
  }

  private static final int[] SEVEN = {1, 2, 4, 8, 9, 50, 99};

  private static void means() {
    due("mean(0)", new LeapJoin().mean(0), HID);
    LeapJoin x = told("ab:1,0/2,0/4,0;c:1/2");
    due("mean(0)", x.mean(0), Double.doubleToLongBits(14.0 / 6));
    due("mean(1)", x.mean(1), 0);
    due("mean(2)", x.mean(2), Double.doubleToLongBits(1.5));
    due("mean(3)", x.mean(3), HID);
    due("mean(-1)", x.mean(-1), HID);
    due("mean(4)", x.mean(4), HID);
    due("no rows", told("a:;b:1").mean(1), HID);
    due("a twelfth", told("a:0/1;b:" + rows(12)).mean(0), Double.doubleToLongBits(0.5));
    due("mean of 99", told("a:99").mean(0), Double.doubleToLongBits(99));
    for (int n = 1; n < 7; n++) {
      StringBuilder s = new StringBuilder("a:");
      double sum = 0;
      for (int i = 0; i <= n; i++) { s.append(i > 0 ? "/" : "").append(SEVEN[i]); sum += SEVEN[i]; }
      due("mean of " + s, told(s.toString()).mean(0), Double.doubleToLongBits(sum / (n + 1)));
      due("mean of " + s + " as a float", told(s.toString()).meanAs(0, 0), Float.floatToIntBits((float) (sum / (n + 1))));
    }
    // less than one: 1/2, 1/3 ..
    for (int n = 2; n <= 12; n++) {
      StringBuilder s = new StringBuilder("ab:0,0");
      for (int i = 1; i < n; i++) s.append("/").append(i == 1 ? 1 : 0).append(",").append(i);
      due("mean of " + s, told(s.toString()).mean(0), Double.doubleToLongBits(1.0 / n));
      due("mean of " + s + " as a float", told(s.toString()).meanAs(0, 0), Float.floatToIntBits((float) (1.0 / n)));
    }
  }

  private static void meansOtherwise() {
    due("meanAs(0, 0)", new LeapJoin().meanAs(0, 0), HID);
    LeapJoin x = told("ab:1,0/2,0/5,0;c:98/99");
    due("meanAs(0, 0)", x.meanAs(0, 0), Float.floatToIntBits((float) (8.0 / 3)));
    due("meanAs(0, 1), cut", x.meanAs(0, 1), 2);
    due("meanAs(1, 0)", x.meanAs(1, 0), 0);
    due("meanAs(1, 1)", x.meanAs(1, 1), 0);
    due("meanAs(2, 0)", x.meanAs(2, 0), Float.floatToIntBits(98.5f));
    due("meanAs(2, 1)", x.meanAs(2, 1), 98);
    due("meanAs(2, 2)", x.meanAs(2, 2), HID);
    due("meanAs(2, -1)", x.meanAs(2, -1), HID);
    due("meanAs(3, 0)", x.meanAs(3, 0), HID);
    due("meanAs(-1, 1)", x.meanAs(-1, 1), HID);
    due("no rows", told("a:").meanAs(0, 1), HID);
  }

  private static double spreadOf(LeapJoin x, int letter, boolean backwards) {
    double sum = 0;
    int n = x.rows();
    for (int i = 0; i < n; i++) sum += x.row(i, letter);
    double mean = sum / n;
    sum = 0;
    for (int i = 0; i < n; i++) sum += Math.abs(x.row(backwards ? n - 1 - i : i, letter) - mean);
    return sum / n;
  }

  private static void spreads() {
    due("spread(0)", new LeapJoin().spread(0), HID);
    LeapJoin x = told("a:1/2/6;b:4");
    due("spread(0)", x.spread(0), Double.doubleToLongBits(2.0));
    due("spread(1)", x.spread(1), 0);
    due("spread(2)", x.spread(2), HID);
    due("spread(4)", x.spread(4), HID);
    due("no rows", told("a:").spread(0), HID);
    // doubles added up in the order of rows: backwards another double comes of it
    x = told("ab:1,60/5,9/11,3/14,55/20,31/29,70/50,2");
    due("the order of rows is seen", spreadOf(x, 0, false) != spreadOf(x, 0, true) || spreadOf(x, 1, false) != spreadOf(x, 1, true), true);
    for (int order : new int[] {0, 6}) {
      x.order(order);
      for (int letter = 0; letter < 2; letter++) due("spread(" + letter + ")", x.spread(letter), Double.doubleToLongBits(spreadOf(x, letter, false)));
    }
  }

  private static void skews() {
    due("skew(0)", new LeapJoin().skew(0), HID);
    LeapJoin x = told("ab:7,2/7,3/5,3/5,4/9,0/7,9/7,1");
    due("skew(0)", x.skew(0), Float.floatToIntBits(4f / 7));
    due("skew(1)", x.skew(1), Float.floatToIntBits(2f / 7));
    due("skew(2)", x.skew(2), HID);
    due("skew(-1)", x.skew(-1), HID);
    due("one", told("a:0").skew(0), Float.floatToIntBits(1f));
    due("no rows", told("a:").skew(0), HID);
  }

  private static void puts() {
    LeapJoin x = new LeapJoin();
    due("put", x.put(0, 1, NO, NO), NO);
    due("status(0)", x.status(0), 1);
    tell(x, "ba:1,2;c:;abd:1,2,3");
    due("put", x.put(0, 0, 99, NO), 2);
    due("put", x.put(1, 5, NO, NO), 1);
    due("put", x.put(2, 0, 0, 0), 2);
    due("cell", x.cell(0, 0, 1), 99);
    due("put there", x.put(0, 1, 2, NO), NO);
    due("status(2)", x.status(2), 1);
    int[][] bad = {{0, 1, NO, NO}, {0, 1, 2, 3}, {0, 100, 2, NO}, {0, NO, 2, NO}, {0, 1, -2, NO}, {0, 1, 2, -2}, {0, 1, NO, 2},
        {1, 1, NO, 1}, {1, NO, NO, NO}, {1, 100, NO, NO}, {2, 1, 2, NO}, {2, NO, 2, 3}, {2, 1, 2, 100}, {1, Integer.MIN_VALUE, NO, NO}, {1, Integer.MAX_VALUE, NO, NO}};
    for (int[] b : bad) due("put(" + b[0] + ", " + b[1] + ", " + b[2] + ", " + b[3] + ")", x.put(b[0], b[1], b[2], b[3]), NO);
    due("status(1)", x.status(1), bad.length);
    due("no table, of several the first", x.put(3, 100, NO, NO), NO);
    due("no table", x.put(-1, 1, NO, NO), NO);
    due("no table", x.put(Integer.MIN_VALUE, 1, NO, NO), NO);
    due("status(0)", x.status(0), 4);
    for (int i = 0; i < 11; i++) due("put", x.put(1, 20 + i, NO, NO), i + 2);
    due("a 13th row", x.put(1, 50, NO, NO), NO);
    due("status(3)", x.status(3), 1);
    due("there and full, the first", x.put(1, 20, NO, NO), NO);
    due("status(2)", x.status(2), 2);
    due("full and no number, the first", x.put(1, 200, NO, NO), NO);
    due("status(1)", x.status(1), bad.length + 1);
    due("status(3)", x.status(3), 1);
    due("count(3)", x.count(3), 14);
    due("rule(4)", x.rule(4), 16);
    x.use(1);
    x.take(1, 20, NO, NO);
    due("into one not used", x.put(1, 77, NO, NO), 12);
  }

  private static void takes() {
    LeapJoin x = new LeapJoin();
    due("take", x.take(0, 1, NO, NO), NO);
    tell(x, "ba:1,2/3,4/0,9;c:");
    due("take", x.take(0, 1, 2, NO), 2);
    due("cell", x.cell(0, 1, 0), 3);
    due("take again", x.take(0, 1, 2, NO), NO);
    due("take of none", x.take(1, 1, NO, NO), NO);
    due("status(2)", x.status(2), 2);
    due("take", x.take(0, 3, NO, NO), NO);
    due("take", x.take(0, 3, 4, 0), NO);
    due("take", x.take(1, 100, NO, NO), NO);
    due("status(1)", x.status(1), 3);
    due("take", x.take(2, 3, 4, 0), NO);
    due("status(0)", x.status(0), 2);
    due("status(3)", x.status(3), 0);
    due("take", x.take(0, 3, 4, NO), 1);
    due("take", x.take(0, 0, 9, NO), 0);
    due("rule(4)", x.rule(4), 0);
    due("count(3)", x.count(3), 3);
  }

  private static void uses() {
    LeapJoin x = new LeapJoin();
    due("use(0)", x.use(0), NO);
    due("status(0)", x.status(0), 1);
    tell(x, "a:1;b:1/2;a:3");
    due("use(0)", x.use(0), 0);
    due("rule(1)", x.rule(1), 6);
    due("rows()", x.rows(), 2);
    due("use(2)", x.use(2), 0);
    due("the only one", x.use(1), NO);
    due("status(2)", x.status(2), 1);
    due("use(0)", x.use(0), 1);
    due("use(1)", x.use(1), 0);
    due("rows()", x.rows(), 1);
    due("use(3)", x.use(3), NO);
    due("use(-1)", x.use(-1), NO);
    due("use(32)", x.use(32), NO);
    due("status(0)", x.status(0), 4);
    due("count(3)", x.count(3), 4);
  }

  private static void orders() {
    LeapJoin x = new LeapJoin();
    due("order(1)", x.order(1), NO);
    due("order(99)", x.order(99), NO);
    due("status(0)", x.status(0), 2);
    tell(x, "a:1/2;b:1/2;c:1/2;d:1/2");
    due("order(0)", x.order(0), NO);
    due("status(2)", x.status(2), 1);
    due("order(24)", x.order(24), NO);
    due("order(-1)", x.order(-1), NO);
    due("status(1)", x.status(1), 2);
    String[] perms = {"abcd", "abdc", "acbd", "acdb", "adbc", "adcb", "bacd", "badc", "bcad", "bcda", "bdac", "bdca",
        "cabd", "cadb", "cbad", "cbda", "cdab", "cdba", "dabc", "dacb", "dbac", "dbca", "dcab", "dcba"};
    int was = 0;
    for (int o = 23; o >= 0; o--) {
      due("order(" + o + ")", x.order(o), was);
      was = o;
      // in rows 1, 2, 4, 8 the last, the third .. letter goes to 2
      for (int k = 0; k < 4; k++) for (int j = 0; j < 4; j++)
        due("row(" + (8 >> k) + ") by order " + o, x.row(8 >> k, perms[o].charAt(j) - 'a'), j == k ? 2 : 1);
    }
    due("count(3)", x.count(3), 24);
  }

  private static long seedNow;
  private static int draw(int j) {
    seedNow = seedNow * 6364136223846793005L + 1442695040888963407L;
    return (int) ((seedNow >>> 33) % j);
  }

  private static void waysByDraws() {
    due("ways(1, 1)", new LeapJoin().ways(1, 1), NO);
    LeapJoin x = told("a:1");
    due("ways(0, 1)", x.ways(0, 1), NO);
    due("ways(41, 1)", x.ways(41, 1), NO);
    due("ways(-1, 1)", x.ways(-1, 1), NO);
    due("ways(MAX, 1)", x.ways(Integer.MAX_VALUE, 1), NO);
    due("count(3)", x.count(3), 0);
    int[] met = new int[4];
    for (long seed = -250; seed < 250; seed++) {
      x = told("a:0/1;bc:3,4/2,2/0,5;dab:1,2,3");
      int[] widths = {1, 2, 3};
      int[] sizes = {2, 3, 1};
      seedNow = seed * 0x9E3779B97F4A7C15L;
      long told = seedNow;
      int sort = draw(8);
      if (sort == 7) {
        int o = draw(24);
        due("ways, seed " + told, x.ways(1, told), x.rows());
        due("order", x.rule(2), o);
        due("count(3)", x.count(3), o == 0 ? 0 : 1);
        if (o != 0) due("log(0, 0)", x.log(0, 0), 3);
        met[3]++;
        continue;
      }
      int t = draw(3);
      if (sort == 6) {
        due("ways", x.ways(1, told), x.rows());
        due("used", x.rule(1), 7 ^ 1 << t);
        met[2]++;
      } else if (sort > 3) {
        int i = draw(12);
        int n = x.cell(t, i, 0), p = x.cell(t, i, 1), q = x.cell(t, i, 2);
        due("ways", x.ways(1, told), x.rows());
        due("rule(4)", x.rule(4), i < sizes[t] ? 5 : 6);
        if (i < sizes[t]) { due("that one is gone", x.take(t, n, p, q), NO); due("log(0, 0)", x.log(0, 0), 1); met[1]++; }
      } else {
        int[] v = {NO, NO, NO};
        for (int k = 0; k < widths[t]; k++) v[k] = draw(6);
        x.ways(1, told);
        due("that one is there", x.put(t, v[0], v[1], v[2]), NO);
        due("status(2)", x.status(2), 1);
        due("status(1)", x.status(1), 0);
        if (x.count(3) > 0) { due("log(0, 0)", x.log(0, 0), 0); due("log(0, 1)", x.log(0, 1), t); due("rule(4)", x.rule(4), 7); }
        met[0]++;
      }
    }
    for (int k = 0; k < 4; k++) due("sort " + k + " was met", met[k] > 3, true);
    // forty at once are as forty draws in a row, refused ones without status
    x = told("a:0/1;bc:3,4/2,2/0,5;dab:1,2,3");
    int rows = x.ways(40, 12345);
    due("ways(40, ..)", rows, x.rows());
    for (int i = 0; i < 4; i++) due("no status", x.status(i), 0);
    due("acts", x.count(3) > 10 && x.count(3) <= 40, true);
    due("can be undone", x.count(4), x.count(3));
    // of one table alone the use can't be left off
    x = told("a:1/2/3");
    for (int seed = 0; seed < 20; seed++) { x.ways(40, seed); due("used", x.rule(1), 1); }
    due("status(2)", x.status(2), 0);
  }

  private static void statusOfRefused() {
    LeapJoin x = new LeapJoin();
    due("status(-1)", x.status(-1), NO);
    due("status(4)", x.status(4), NO);
    due("status(MIN)", x.status(Integer.MIN_VALUE), NO);
    x.put(0, 1, NO, NO);
    x.take(0, 1, NO, NO);
    x.use(0);
    x.order(1);
    due("status(0)", x.status(0), 4);
    tell(x, "a:" + rows(12));
    due("status(0) stays", x.status(0), 4);
    x.put(0, 100, NO, NO);
    x.take(0, 1, 1, NO);
    x.order(24);
    due("status(1)", x.status(1), 3);
    x.put(0, 0, NO, NO);
    x.take(0, 99, NO, NO);
    x.use(0);
    x.order(0);
    due("status(2)", x.status(2), 4);
    x.put(0, 99, NO, NO);
    due("status(3)", x.status(3), 1);
    // what is no act called for counts nothing
    x.would(0, 0, NO, NO, 0);
    x.would(9, 0, NO, NO, 0);
    x.ways(99, 1);
    x.undo();
    x.back();
    x.perform(0);
    script(x, "p9:1");
    x.run(0, 0);
    x.perform(0);
    due("status(0)", x.status(0), 4);
    due("status(1)", x.status(1), 3);
    due("status(2)", x.status(2), 4);
    due("status(3)", x.status(3), 1);
    x.order(5);
    x.order(5);
    x.undo();
    due("not undone", x.status(2), 5);
    x.image();
    x.order(0);
    x.back();
    due("status stays", x.status(2), 6);
  }

  private static void undone() {
    LeapJoin x = new LeapJoin();
    due("undo()", x.undo(), NO);
    tell(x, "ab:1,2/3,4;b:2/4");
    x.put(0, 0, 4, NO);
    x.take(1, 2, NO, NO);
    x.use(1);
    x.order(9);
    x.put(0, 0, 4, NO);
    due("count(4)", x.count(4), 4);
    due("undo()", x.undo(), 3);
    due("order", x.rule(2), 0);
    due("log", x.count(3), 3);
    due("undo()", x.undo(), 2);
    due("used", x.rule(1), 3);
    due("rows()", x.rows(), 2);
    due("undo()", x.undo(), 1);
    due("there again", x.cell(1, 0, 0), 2);
    due("rows()", x.rows(), 3);
    due("log(0, 0)", x.log(0, 0), 0);
    due("undo()", x.undo(), 0);
    due("gone again", x.cell(0, 0, 0), 1);
    due("rows()", x.rows(), 2);
    due("log", x.count(3), 0);
    due("undo()", x.undo(), NO);
    // the latest forty, and the log as it was
    x = told("a:1");
    for (int i = 1; i <= 50; i++) due("order", x.order(i % 24) >= 0, true);
    due("count(4)", x.count(4), 40);
    for (int i = 1; i <= 40; i++) { due("undo()", x.undo(), 40 - i); due("order", x.rule(2), (50 - i) % 24); due("log", x.count(3), 50 - i); }
    due("no more", x.undo(), NO);
    due("order stays", x.rule(2), 10);
    // a log of 60 has 60 again: those that it had let go come back
    x = told("a:1");
    for (int i = 1; i <= 130; i++) x.order(i % 24);
    due("log", x.count(3), 60);
    for (int i = 0; i < 40; i++) x.undo();
    due("log", x.count(3), 60);
    for (int i = 0; i < 60; i++) due("log(" + i + ", 1)", x.log(i, 1), (90 - i) % 24);
    due("log(60, 1)", x.log(60, 1), HID);
  }

  private static void logs() {
    LeapJoin x = new LeapJoin();
    due("log(0, 0)", x.log(0, 0), HID);
    tell(x, TWO);
    x.put(0, 4, NO, NO);
    x.take(1, 3, NO, NO);
    x.use(0);
    x.order(11);
    x.order(11);
    int[][] want = {{3, 11, 3}, {2, 0, 3}, {1, 1, 2}, {0, 0, 3}};
    for (int i = 0; i < 4; i++) for (int w = 0; w < 3; w++) due("log(" + i + ", " + w + ")", x.log(i, w), want[i][w]);
    due("log(4, 0)", x.log(4, 0), HID);
    due("log(-1, 0)", x.log(-1, 0), HID);
    due("log(0, 3)", x.log(0, 3), HID);
    due("log(0, -1)", x.log(0, -1), HID);
    due("log(MAX, 0)", x.log(Integer.MAX_VALUE, 0), HID);
    x = told("a:1");
    for (int i = 1; i <= 75; i++) {
      x.order(i % 24);
      due("count(3)", x.count(3), Math.min(i, 60));
    }
    for (int i = 0; i < 60; i++) due("log(" + i + ", 1)", x.log(i, 1), (75 - i) % 24);
    due("log(60, 1)", x.log(60, 1), HID);
  }

  private static void wouldBe() {
    due("would", new LeapJoin().would(0, 1, NO, NO, 0), NO);
    LeapJoin x = told(TWO);
    due("would", x.would(0, 4, NO, NO, 0), 3);
    // 0: 1 3 4 5, 1: 2 3 4 5: two leaps to 3; 0 to 4, 1 to 4; 0 to 5, 1 to 5; 0 to its end
    due("would", x.would(0, 4, NO, NO, 1), 7);
    due("would", x.would(0, 0, NO, NO, 0), 2);
    due("would", x.would(0, 4, NO, NO, 2), NO);
    due("would", x.would(0, 4, NO, NO, -1), NO);
    due("would", x.would(0, 5, NO, NO, 0), NO);
    due("would", x.would(0, 4, 4, NO, 0), NO);
    due("would", x.would(0, 100, NO, NO, 0), NO);
    due("would", x.would(2, 4, NO, NO, 0), NO);
    due("would", x.would(-1, 4, NO, NO, 0), NO);
    due("nothing is", x.rows(), 2);
    due("leaps()", x.leaps(), 5);
    due("count(3)", x.count(3), 0);
    for (int i = 0; i < 4; i++) due("status", x.status(i), 0);
    x = told("a:" + rows(12));
    due("full", x.would(0, 50, NO, NO, 0), NO);
    x = told("a:1;b:");
    x.use(1);
    due("into one not used", x.would(1, 50, NO, NO, 0), 1);
    x.use(1);
    due("by the order", x.would(1, 5, NO, NO, 1), 2);
    x.use(0);
    due("would", x.would(1, 50, NO, NO, 1), 1);
  }

  private static void stepsOfScripts() {
    LeapJoin x = new LeapJoin();
    due("step(0, 0, 0)", x.step(0, 0, 0), HID);
    script(x, "p1:2,33 ; t9:00,1,2; u 7;o 05;p3:4");
    script(x, "o23");
    int[][] want = {{0, 1, 2, 33, NO}, {1, 9, 0, 1, 2}, {2, 7, NO, NO, NO}, {3, 5, NO, NO, NO}, {0, 3, 4, NO, NO}};
    for (int i = 0; i < 5; i++) for (int w = 0; w < 5; w++) due("step(0, " + i + ", " + w + ")", x.step(0, i, w), want[i][w]);
    due("step(1, 0, 1)", x.step(1, 0, 1), 23);
    due("step(1, 1, 0)", x.step(1, 1, 0), HID);
    due("step(0, 5, 0)", x.step(0, 5, 0), HID);
    due("step(0, -1, 0)", x.step(0, -1, 0), HID);
    due("step(2, 0, 0)", x.step(2, 0, 0), HID);
    due("step(-1, 0, 0)", x.step(-1, 0, 0), HID);
    due("step(0, 0, 5)", x.step(0, 0, 5), HID);
    due("step(0, 0, -1)", x.step(0, 0, -1), HID);
    tell(x, "a:");
    due("scripts stay", x.step(0, 0, 3), 33);
  }

  private static void runsOfScripts() {
    LeapJoin x = new LeapJoin();
    due("run(0, 0)", x.run(0, 0), HID);
    script(x, "p0:4;t1:3;o6;u0;u1");
    script(x, "p0:4;t1:3");
    script(x, "u9;o1");
    due("no tables", x.run(0, 0), HID);
    tell(x, TWO);
    due("run(0, 0)", x.run(0, 0), 4);
    due("run(0, 1)", x.run(0, 1), 3);
    due("run(1, 0)", x.run(1, 0), NO);
    due("run(1, 1)", x.run(1, 1), 2);
    due("run(2, 0)", x.run(2, 0), 0);
    due("run(2, 1)", x.run(2, 1), 2);
    due("run(3, 0)", x.run(3, 0), HID);
    due("run(-1, 0)", x.run(-1, 0), HID);
    due("run(0, 2)", x.run(0, 2), HID);
    due("run(0, -1)", x.run(0, -1), HID);
    due("nothing is", x.rule(4), 7);
    due("rows()", x.rows(), 2);
    due("count(4)", x.count(4), 0);
  }

  private static void performed() {
    LeapJoin x = new LeapJoin();
    due("perform(0)", x.perform(0), NO);
    script(x, "p0:4;t1:3;o6;u0;u1;o0");
    script(x, "u0;u1;t1:5");
    due("no tables", x.perform(0), NO);
    tell(x, TWO);
    due("perform(0)", x.perform(0), 4);
    due("rule(2)", x.rule(2), 6);
    due("rule(1)", x.rule(1), 2);
    due("count(3)", x.count(3), 4);
    due("count(4)", x.count(4), 4);
    due("log(0, 0)", x.log(0, 0), 2);
    due("log(3, 2)", x.log(3, 2), 3);
    due("perform(0)", x.perform(0), 0);
    for (int i = 0; i < 4; i++) due("no status", x.status(i), 0);
    due("perform(1)", x.perform(1), 3);
    due("rows()", x.rows(), 4);
    due("undo()", x.undo(), 6);
    due("perform(2)", x.perform(2), NO);
    due("perform(-1)", x.perform(-1), NO);
  }

  private static void mostOfAll() {
    for (int w = -1; w < 8; w++) due("most(" + w + ")", new LeapJoin().most(w), HID);
    LeapJoin x = told(TWO);
    due("most(0)", x.most(0), 23);
    due("most(1)", x.most(1), 1);
    due("most(2)", x.most(2), 0);
    due("most(3)", x.most(3), 3);
    due("most(4)", x.most(4), 0);
    due("most(5)", x.most(5), 5);
    due("most(6)", x.most(6), 5);
    due("most(7)", x.most(7), HID);
    due("most(-1)", x.most(-1), HID);
    x.use(0);
    due("most(0), of all", x.most(0), 23);
    due("most(2)", x.most(2), 1);
    due("most(3)", x.most(3), 0);
    x = told("ab:1,1/1,2/1,3;b:9;abd:10,20,30");
    x.order(6);
    due("most(0)", x.most(0), 78);
    due("most(1)", x.most(1), 0);
    due("most(3)", x.most(3), 5);
    due("most(4), no rows", x.most(4), 6);
    x.use(2);
    due("most(5), by order 0", x.most(5), 2);
    due("most(6)", x.most(6), 2);
    due("order stays", x.leaps(), 1);
    x = told("a:1;a:2");
    due("of several the lowest", x.most(1), 0);
    x = told("ab:1,2/3,2;c:4/5");
    due("a and c tell b, alone", x.most(4), 2);
    due("a tells b, c too", told("ab:1,2/3,2;c:4").most(4), 1 + 1 + 1 + 1);
  }

  private static void images() {
    LeapJoin x = new LeapJoin();
    due("image()", x.image(), NO);
    tell(x, TWO);
    x.order(3);
    due("image()", x.image(), 2);
    due("count(4)", x.count(4), 1);
    x.put(0, 4, NO, NO);
    due("image(), instead", x.image(), 3);
    x.take(0, 4, NO, NO);
    due("back()", x.back(), 3);
    due("rule(4)", x.rule(4), 8);
  }

  private static void backs() {
    LeapJoin x = new LeapJoin();
    due("back()", x.back(), NO);
    tell(x, TWO);
    due("back()", x.back(), NO);
    x.put(0, 4, NO, NO);
    x.order(7);
    x.image();
    x.order(8);
    x.use(0);
    x.take(1, 2, NO, NO);
    due("back()", x.back(), 3);
    due("rule(1)", x.rule(1), 3);
    due("rule(2)", x.rule(2), 7);
    due("rule(4)", x.rule(4), 8);
    due("leaps()", x.leaps(), 7);
    due("the log, too", x.count(3), 2);
    due("log(0, 1)", x.log(0, 1), 7);
    due("count(4)", x.count(4), 0);
    due("undo()", x.undo(), NO);
    x.use(1);
    due("count(4)", x.count(4), 1);
    due("once more", x.back(), 3);
    due("rule(1)", x.rule(1), 3);
    due("undo()", x.undo(), NO);
    tell(x, TWO);
    due("of others", x.back(), NO);
  }

  private static void counts() {
    LeapJoin x = new LeapJoin();
    feed(x, "a:1;b:2");
    due("count(2)", x.count(2), 7);
    x.text(0);
    due("count(0)", x.count(0), 2);
    due("count(2)", x.count(2), 0);
    script(x, "o1;o2;o3");
    due("count(1)", x.count(1), 1);
    x.perform(0);
    x.undo();
    due("count(3)", x.count(3), 2);
    due("count(4)", x.count(4), 2);
    due("count(5)", x.count(5), HID);
    due("count(-1)", x.count(-1), HID);
    due("count(MAX)", x.count(Integer.MAX_VALUE), HID);
  }

  private static final Runnable[] TESTS = {Promises::newObject, Promises::feeds, Promises::ends, Promises::faults, Promises::texts,
      Promises::rules, Promises::tables, Promises::cells, Promises::rowsOfJoin, Promises::rowOfJoin, Promises::leapsOfJoin,
      Promises::beginningsOfJoin, Promises::bestOrder, Promises::plainProduct, Promises::givenRows, Promises::withoutTable,
      Promises::projections, Promises::timesOfNumbers, Promises::distinctNumbers, Promises::tellsWhom, Promises::behindNumbers,
      Promises::hasRow, Promises::means, Promises::meansOtherwise, Promises::spreads, Promises::skews, Promises::puts,
      Promises::takes, Promises::uses, Promises::orders, Promises::waysByDraws, Promises::statusOfRefused, Promises::undone,
      Promises::logs, Promises::wouldBe, Promises::stepsOfScripts, Promises::runsOfScripts, Promises::performed,
      Promises::mostOfAll, Promises::images, Promises::backs, Promises::counts};

  public static void main(String[] args) {
    for (Runnable test : TESTS) { promise++; test.run(); }
    System.out.println(promise + " promises, " + checks + " checks, " + wrong + " wrong");
    if (wrong != 0 || promise != 42) System.exit(1);
  }
}
