import java.util.ArrayList;
import java.util.Collections;
import java.util.Comparator;
import java.util.HashMap;
import java.util.HashSet;
import java.util.List;
import java.util.Map;
import java.util.NoSuchElementException;
import java.util.Objects;
import java.util.Random;
import java.util.Set;
import java.util.TreeSet;

/** Random runs of calls (fixed seeds), each answer beside that of a plain model written after the document. */
public final class RandomRuns {
  private static final int RUNS = 6000;
  private static int wrong = 0;

  /** All that acts change, copied whole for each act. */
  private static final class State {
    List<List<Integer>> letters = new ArrayList<>();
    List<Set<List<Integer>>> rows = new ArrayList<>();
    List<Boolean> used = new ArrayList<>();
    int order = 0;
    List<int[]> log = new ArrayList<>();

    State copy() {
      State s = new State();
      s.letters = letters;
      for (Set<List<Integer>> r : rows) s.rows.add(new HashSet<>(r));
      s.used = new ArrayList<>(used);
      s.order = order;
      s.log = new ArrayList<>(log);
      return s;
    }

    int many() { return letters.size(); }
    int usedMany() { return Collections.frequency(used, true); }

    TreeSet<Integer> asked() {
      TreeSet<Integer> a = new TreeSet<>();
      for (int t = 0; t < many(); t++) if (used.get(t)) a.addAll(letters.get(t));
      return a;
    }

    List<List<Integer>> rising(int t) {
      List<List<Integer>> l = new ArrayList<>(rows.get(t));
      l.sort((p, q) -> {
        for (int k = 0; k < p.size(); k++) if (!p.get(k).equals(q.get(k))) return p.get(k) - q.get(k);
        return 0;
      });
      return l;
    }
  }

  private static final List<List<Integer>> PERMS = permutations();
  private static List<List<Integer>> permutations() {
    List<List<Integer>> all = new ArrayList<>();
    for (int n = 0; n < 256; n++) {
      List<Integer> p = List.of(n >> 6 & 3, n >> 4 & 3, n >> 2 & 3, n & 3);
      Set<Integer> s = new HashSet<>(p);
      if (s.size() == 4) all.add(p);
    }
    return all;
  }

  /** The join by joining table to table; rows are arrays of four, -1 for a letter that is not asked. */
  private static List<int[]> join(State s, int order) {
    List<int[]> found = new ArrayList<>();
    found.add(new int[] {-1, -1, -1, -1});
    for (int t = 0; t < s.many(); t++) {
      if (!s.used.get(t)) continue;
      List<int[]> next = new ArrayList<>();
      for (int[] f : found) for (List<Integer> r : s.rows.get(t)) {
        int[] g = f.clone();
        boolean fits = true;
        for (int k = 0; k < r.size(); k++) {
          int letter = s.letters.get(t).get(k);
          if (g[letter] != -1 && g[letter] != r.get(k)) fits = false;
          g[letter] = r.get(k);
        }
        if (fits) next.add(g);
      }
      found = next;
    }
    List<Integer> perm = PERMS.get(order);
    Comparator<int[]> by = Comparator.comparingInt(r -> r[perm.get(0)]);
    for (int k = 1; k < 4; k++) { int letter = perm.get(k); by = by.thenComparingInt(r -> r[letter]); }
    found.sort(by);
    return found;
  }

  /** Leaps (at 0) and beginnings (at 1 ..) as the document tells them. */
  private static int[] leapsOf(State s, int order) {
    List<Integer> seq = new ArrayList<>();
    for (int letter : PERMS.get(order)) if (s.asked().contains(letter)) seq.add(letter);
    int[] sums = new int[5];
    leap(s, seq, 0, new HashMap<>(), sums);
    return sums;
  }

  private static void leap(State s, List<Integer> seq, int depth, Map<Integer, Integer> sofar, int[] sums) {
    if (depth == seq.size()) return;
    int letter = seq.get(depth);
    List<TreeSet<Integer>> keys = new ArrayList<>();
    for (int t = 0; t < s.many(); t++) {
      if (!s.used.get(t) || !s.letters.get(t).contains(letter)) continue;
      TreeSet<Integer> k = new TreeSet<>();
      for (List<Integer> r : s.rows.get(t)) {
        boolean fits = true;
        for (int c = 0; c < r.size(); c++) {
          Integer n = sofar.get(s.letters.get(t).get(c));
          if (n != null && !n.equals(r.get(c))) fits = false;
        }
        if (fits) k.add(r.get(s.letters.get(t).indexOf(letter)));
      }
      if (k.isEmpty()) return;
      keys.add(k);
    }
    List<Integer> stands = new ArrayList<>();
    for (TreeSet<Integer> k : keys) stands.add(k.first());
    while (!stands.contains(null)) {
      int greatest = Collections.max(stands);
      if (Collections.min(stands) == greatest) {
        sums[depth + 1]++;
        sofar.put(letter, greatest);
        leap(s, seq, depth + 1, sofar, sums);
        sofar.remove(letter);
        stands.set(0, keys.get(0).higher(greatest));
      } else {
        int m = 0;
        while (stands.get(m) == greatest) m++;
        stands.set(m, keys.get(m).ceiling(greatest));
      }
      sums[0]++;
    }
  }

  /** The tape read sign by sign; answers the fault, or -1; what was read is in the lists. */
  private static int readTables(byte[] b, int length, State into) {
    int state = 0;
    List<Integer> ls = new ArrayList<>();
    List<List<Integer>> rs = new ArrayList<>();
    List<Integer> row = new ArrayList<>();
    int tables = 0;
    for (int i = 0; i <= length; i++) {
      int c = i < length ? b[i] & 255 : -1;
      boolean digit = c >= '0' && c <= '9';
      if (c == ' ') { if (state == 3) state = 4; continue; }
      if (state == 0) {
        if (c >= 'a' && c <= 'd' && ls.size() < 3 && !ls.contains(c - 'a')) ls.add(c - 'a');
        else if (c == ':' && !ls.isEmpty()) state = 1;
        else return i;
        continue;
      }
      boolean rowWhole = row.size() == ls.size();
      if (digit && (state == 1 || state == 2)) { if (state == 1 || row.isEmpty()) { if (state == 1) row.clear(); } row.add(c - '0'); state = 3; continue; }
      if (digit && state == 3) { row.set(row.size() - 1, row.get(row.size() - 1) * 10 + c - '0'); state = 4; continue; }
      if (c == ',' && (state == 3 || state == 4) && !rowWhole) { state = 2; continue; }
      if (c == '/' && (state == 3 || state == 4) && rowWhole && rs.size() < 11) { rs.add(new ArrayList<>(row)); row.clear(); state = 2; continue; }
      boolean clauseWhole = state == 1 || (state == 3 || state == 4) && rowWhole;
      if ((c == ';' && tables < 3 || c == -1) && clauseWhole) {
        if (state != 1) rs.add(new ArrayList<>(row));
        into.letters.add(new ArrayList<>(ls));
        into.rows.add(new HashSet<>(rs));
        into.used.add(true);
        tables++;
        ls.clear(); rs.clear(); row.clear();
        state = 0;
        continue;
      }
      return i;
    }
    return -1;
  }

  /** A step is {sort, number, x, y, z}. */
  private static int readScript(byte[] b, int length, List<int[]> into) {
    int i = 0;
    int[] cur = null;
    String state = "step";
    int numbers = 0;
    for (; i <= length; i++) {
      int c = i < length ? b[i] & 255 : -1;
      boolean digit = c >= '0' && c <= '9';
      if (c == ' ') { if (state.equals("number1") || state.equals("order1")) state = "whole"; continue; }
      switch (state) {
        case "step":
          int sort = c < 0 ? -1 : "ptuo".indexOf(c);
          if (sort < 0) return i;
          cur = new int[] {sort, 0, -1, -1, -1};
          numbers = 0;
          state = sort == 3 ? "order" : "digit";
          continue;
        case "digit":
          if (!digit) return i;
          cur[1] = c - '0';
          state = cur[0] == 2 ? "whole" : "colon";
          continue;
        case "colon":
          if (c != ':') return i;
          state = "number";
          continue;
        case "number":
          if (!digit) return i;
          cur[2 + numbers++] = c - '0';
          state = "number1";
          continue;
        case "order":
          if (!digit) return i;
          cur[1] = c - '0';
          state = "order1";
          continue;
        default:
      }
      if (digit && state.equals("number1")) { cur[1 + numbers] = cur[1 + numbers] * 10 + c - '0'; state = "whole"; continue; }
      if (digit && state.equals("order1")) { cur[1] = cur[1] * 10 + c - '0'; if (cur[1] > 23) return i; state = "whole"; continue; }
      if (c == ',' && cur[0] < 2 && numbers < 3) { state = "number"; continue; }
      if (c == -1 || c == ';' && into.size() < 11) { into.add(cur); state = "step"; continue; }
      return i;
    }
    return -1;
  }

  /** The face, plainly. */
  private static final class Model {
    byte[] tape = new byte[400];
    int length = 0;
    State now = new State();
    State image = null;
    List<State> past = new ArrayList<>();
    List<List<int[]>> scripts = new ArrayList<>();
    int[] status = new int[4];

    int feed(int... words) {
      List<Byte> more = new ArrayList<>();
      for (int w : words) for (int k = 3; k >= 0; k--) { byte x = (byte) (w >>> 8 * k); if (x != 0) more.add(x); }
      if (length + more.size() > 400) return -1;
      for (byte x : more) tape[length++] = x;
      return length;
    }
    boolean end(int n) { if (n < 0 || n > length) return false; length = n; return true; }
    int fault(int sort) {
      return sort == 0 ? readTables(tape, length, new State()) : sort == 1 ? readScript(tape, length, new ArrayList<>()) : -2;
    }
    int text(int sort) {
      if (sort != 0 && sort != 1 || fault(sort) != -1) return -1;
      if (sort == 0) {
        now = new State();
        readTables(tape, length, now);
        image = null;
        past.clear();
        length = 0;
        return now.many();
      }
      if (scripts.size() == 4) return -1;
      List<int[]> s = new ArrayList<>();
      readScript(tape, length, s);
      scripts.add(s);
      length = 0;
      return scripts.size() - 1;
    }
    boolean none() { return now.many() == 0; }
    boolean noTable(int t) { return t < 0 || t >= now.many(); }
    boolean asked(int letter) { return now.asked().contains(letter); }
    List<int[]> rowsNow() { return none() ? new ArrayList<>() : join(now, now.order); }
    int rows() { return none() ? -1 : rowsNow().size(); }
    static int bits(Iterable<Integer> l) { int b = 0; for (int k : l) b |= 1 << k; return b; }
    int rule(int what) {
      if (none()) return -1;
      int all = 0, used = 0;
      for (int t = 0; t < now.many(); t++) { all += now.rows.get(t).size(); if (now.used.get(t)) used |= 1 << t; }
      switch (what) {
        case 0: return now.many();
        case 1: return used;
        case 2: return now.order;
        case 3: return bits(now.asked());
        case 4: return all;
        default: return -1;
      }
    }
    Integer table(int t, int what) {
      if (noTable(t) || what < 0 || what > 3) return null;
      switch (what) {
        case 0: return now.letters.get(t).size();
        case 1: return bits(now.letters.get(t));
        case 2: return now.rows.get(t).size();
        default: return now.used.get(t) ? 1 : 0;
      }
    }
    int cell(int t, int i, int column) {
      if (noTable(t) || i < 0 || i >= now.rows.get(t).size() || column < 0 || column >= now.letters.get(t).size()) return -1;
      return now.rising(t).get(i).get(column);
    }
    int row(int i, int letter) {
      if (!asked(letter) || i < 0 || i >= rows()) return -1;
      return rowsNow().get(i)[letter];
    }
    int leaps() { return none() ? -1 : leapsOf(now, now.order)[0]; }
    int beginnings(int n) { return none() || n < 1 || n > now.asked().size() ? -1 : leapsOf(now, now.order)[n]; }
    int best(int what) {
      if (none() || what < 0 || what > 1) return -1;
      int best = 0;
      for (int o = 1; o < 24; o++) if (leapsOf(now, o)[0] < leapsOf(now, best)[0]) best = o;
      return what == 0 ? best : leapsOf(now, best)[0];
    }
    int plain() {
      if (none()) return -1;
      int p = 1;
      for (int t = 0; t < now.many(); t++) if (now.used.get(t)) p *= now.rows.get(t).size();
      return p;
    }
    int given(int t) {
      if (noTable(t)) return -1;
      if (!now.used.get(t)) return 0;
      Set<List<Integer>> seen = new HashSet<>();
      for (int[] r : rowsNow()) { List<Integer> l = new ArrayList<>(); for (int k : now.letters.get(t)) l.add(r[k]); seen.add(l); }
      int b = 0;
      for (int i = 0; i < now.rows.get(t).size(); i++) if (seen.contains(now.rising(t).get(i))) b |= 1 << i;
      return b;
    }
    int without(int t) {
      if (noTable(t)) return -1;
      State s = now.copy();
      s.used.set(t, false);
      return s.usedMany() == 0 ? -1 : join(s, s.order).size();
    }
    int projected(int letters) {
      if (none() || letters < 1 || letters > 15) return -1;
      for (int k = 0; k < 4; k++) if ((letters >> k & 1) == 1 && !asked(k)) return -1;
      Set<List<Integer>> seen = new HashSet<>();
      for (int[] r : rowsNow()) { List<Integer> l = new ArrayList<>(); for (int k = 0; k < 4; k++) if ((letters >> k & 1) == 1) l.add(r[k]); seen.add(l); }
      return seen.size();
    }
    int times(int letter, int number) {
      if (!asked(letter)) return -1;
      int n = 0;
      for (int[] r : rowsNow()) if (r[letter] == number) n++;
      return n;
    }
    int distinct(int letter, int what) {
      if (!asked(letter) || what < 0 || what > 3) return -1;
      TreeSet<Integer> s = new TreeSet<>();
      for (int[] r : rowsNow()) s.add(r[letter]);
      if (what == 0) return s.size();
      if (s.isEmpty()) return -1;
      if (what == 1) return s.first();
      if (what == 2) return s.last();
      int best = s.first();
      for (int n : s) if (times(letter, n) > times(letter, best)) best = n;
      return best;
    }
    boolean tells(int letter, int other) {
      if (!asked(letter) || !asked(other)) return false;
      for (int[] p : rowsNow()) for (int[] q : rowsNow()) if (p[letter] == q[letter] && p[other] != q[other]) return false;
      return true;
    }
    int compare(int[] r, int[] v) {
      for (int k : PERMS.get(now.order)) if (asked(k) && r[k] != v[k]) return Integer.compare(r[k], v[k]);
      return 0;
    }
    int behind(int... v) {
      List<int[]> l = rowsNow();
      for (int i = 0; i < l.size(); i++) if (compare(l.get(i), v) > 0) return i;
      return -1;
    }
    boolean has(int... v) {
      for (int[] r : rowsNow()) if (compare(r, v) == 0) return true;
      return false;
    }
    Double meanOf(int letter) {
      if (!asked(letter) || rows() == 0) return null;
      double s = 0;
      for (int[] r : rowsNow()) s += r[letter];
      return s / rows();
    }
    long mean(int letter) { Double m = meanOf(letter); return m == null ? -1000000 : Double.doubleToLongBits(m); }
    int meanAs(int letter, int what) {
      Double m = meanOf(letter);
      if (m == null || what < 0 || what > 1) return -1000000;
      return what == 0 ? Float.floatToIntBits((float) (double) m) : (int) (double) m;
    }
    long spread(int letter) {
      Double m = meanOf(letter);
      if (m == null) return -1000000;
      double s = 0;
      for (int[] r : rowsNow()) s += Math.abs(r[letter] - m);
      return Double.doubleToLongBits(s / rows());
    }
    int skew(int letter) {
      if (meanOf(letter) == null) return -1000000;
      return Float.floatToIntBits((float) times(letter, distinct(letter, 3)) / rows());
    }
    /** The row told, null if it is not as the table's rows are. */
    static List<Integer> fit(State s, int t, int x, int y, int z) {
      List<Integer> l = new ArrayList<>();
      int w = s.letters.get(t).size();
      int[] v = {x, y, z};
      for (int k = 0; k < 3; k++) {
        if (k < w ? v[k] < 0 || v[k] > 99 : v[k] != -1) return null;
        if (k < w) l.add(v[k]);
      }
      return l;
    }
    /** Why not, or -1 and the act is done on that state (no log). */
    static int act(State s, int sort, int n, int x, int y, int z) {
      if (sort == 3) {
        if (s.many() == 0) return 0;
        if (n < 0 || n > 23) return 1;
        if (s.order == n) return 2;
        s.order = n;
        return -1;
      }
      if (n < 0 || n >= s.many()) return 0;
      if (sort == 2) {
        if (s.used.get(n) && s.usedMany() == 1) return 2;
        s.used.set(n, !s.used.get(n));
        return -1;
      }
      List<Integer> r = fit(s, n, x, y, z);
      if (r == null) return 1;
      if (s.rows.get(n).contains(r) == (sort == 0)) return 2;
      if (sort == 0 && s.rows.get(n).size() == 12) return 3;
      if (sort == 0) s.rows.get(n).add(r); else s.rows.get(n).remove(r);
      return -1;
    }
    int attempt(int sort, int n, int x, int y, int z) {
      State was = now.copy();
      int why = act(now, sort, n, x, y, z);
      if (why != -1) return why;
      past.add(was);
      if (past.size() > 40) past.remove(0);
      now.log.add(new int[] {sort, n, rows()});
      return -1;
    }
    boolean told(int sort, int n, int x, int y, int z) {
      int why = attempt(sort, n, x, y, z);
      if (why != -1) status[why]++;
      return why == -1;
    }
    int put(int t, int x, int y, int z) { return told(0, t, x, y, z) ? now.rows.get(t).size() : -1; }
    int take(int t, int x, int y, int z) { return told(1, t, x, y, z) ? now.rows.get(t).size() : -1; }
    int use(int t) { return told(2, t, -1, -1, -1) ? now.used.get(t) ? 1 : 0 : -1; }
    int order(int o) { int was = now.order; return told(3, o, -1, -1, -1) ? was : -1; }
    long x;
    int draw(int j) { x = x * 6364136223846793005L + 1442695040888963407L; return (int) (x >>> 33) % j; }
    int ways(int n, long seed) {
      if (none() || n < 1 || n > 40) return -1;
      x = seed;
      while (n-- > 0) {
        int d = draw(8);
        if (d < 4) {
          int t = draw(now.many());
          int[] v = {-1, -1, -1};
          for (int k = 0; k < now.letters.get(t).size(); k++) v[k] = draw(6);
          attempt(0, t, v[0], v[1], v[2]);
        } else if (d < 6) {
          int t = draw(now.many());
          int i = draw(12);
          if (i < now.rows.get(t).size()) attempt(1, t, cell(t, i, 0), cell(t, i, 1), cell(t, i, 2));
        } else if (d == 6) attempt(2, draw(now.many()), -1, -1, -1);
        else attempt(3, draw(24), -1, -1, -1);
      }
      return rows();
    }
    int status(int what) { return what < 0 || what > 3 ? -1 : status[what]; }
    int undo() {
      if (past.isEmpty()) return -1;
      now = past.remove(past.size() - 1);
      return past.size();
    }
    int log(int i, int what) {
      if (i < 0 || i >= Math.min(60, now.log.size()) || what < 0 || what > 2) return -1000000;
      return now.log.get(now.log.size() - 1 - i)[what];
    }
    int would(int t, int x, int y, int z, int what) {
      State s = now.copy();
      if (what < 0 || what > 1 || act(s, 0, t, x, y, z) != -1) return -1;
      return what == 0 ? join(s, s.order).size() : leapsOf(s, s.order)[0];
    }
    int step(int script, int i, int what) {
      if (script < 0 || script >= scripts.size() || i < 0 || i >= scripts.get(script).size() || what < 0 || what > 4) return -1000000;
      return scripts.get(script).get(i)[what];
    }
    int run(int script, int what) {
      if (script < 0 || script >= scripts.size() || none() || what < 0 || what > 1) return -1000000;
      State s = now.copy();
      int n = 0;
      for (int[] p : scripts.get(script)) { if (act(s, p[0], p[1], p[2], p[3], p[4]) != -1) break; n++; }
      if (what == 1) return join(s, s.order).size();
      return n == scripts.get(script).size() ? -1 : n;
    }
    int perform(int script) {
      if (script < 0 || script >= scripts.size() || none()) return -1;
      int n = 0;
      for (int[] p : scripts.get(script)) { if (attempt(p[0], p[1], p[2], p[3], p[4]) != -1) break; n++; }
      return n;
    }
    int most(int what) {
      if (none()) return -1000000;
      int sum = 0;
      int best = 0;
      switch (what) {
        case 0:
          for (Set<List<Integer>> t : now.rows) for (List<Integer> r : t) for (int n : r) sum += n;
          return sum;
        case 1:
          for (int t = 0; t < now.many(); t++) if (now.rows.get(t).size() > now.rows.get(best).size()) best = t;
          return best;
        case 2:
          for (int t = 0; t < now.many(); t++) if (Integer.bitCount(given(t)) > Integer.bitCount(given(best))) best = t;
          return best;
        case 3:
          for (int t = 0; t < now.many(); t++) if (now.used.get(t)) sum += now.rows.get(t).size() - Integer.bitCount(given(t));
          return sum;
        case 4:
          for (int p = 0; p < 4; p++) for (int q = 0; q < 4; q++) if (p != q && tells(p, q)) sum++;
          return sum;
        case 5: return leapsOf(now, 0)[0];
        case 6:
          for (int o = 0; o < 24; o++) sum = Math.max(sum, leapsOf(now, o)[0]);
          return sum;
        default: return -1000000;
      }
    }
    int image() { if (none()) return -1; image = now.copy(); return rows(); }
    int back() { if (image == null) return -1; now = image.copy(); past.clear(); return rows(); }
    int count(int what) {
      switch (what) {
        case 0: return now.many();
        case 1: return scripts.size();
        case 2: return length;
        case 3: return Math.min(60, now.log.size());
        case 4: return past.size();
        default: return -1000000;
      }
    }
  }

  // ---- the runs

  private final Random random;
  private final LeapJoin x = new LeapJoin();
  private final Model m = new Model();
  private final List<String> calls = new ArrayList<>();
  private final int limit;
  private boolean bad = false;

  private RandomRuns(long seed) {
    random = new Random(seed);
    limit = random.nextInt(4) == 0 ? 12 : random.nextInt(2) == 0 ? 3 : 5;
  }

  private int pick(int from, int to) { return from + random.nextInt(to - from + 1); }
  private boolean rarely(int n) { return random.nextInt(n) == 0; }
  private int table() { return rarely(20) ? new int[] {-1, 4, 5, Integer.MIN_VALUE, Integer.MAX_VALUE}[random.nextInt(5)] : pick(0, Math.max(0, Math.min(3, m.now.many() - 1))); }
  private int what(int most) { return rarely(25) ? new int[] {-1, most + 1, Integer.MIN_VALUE, Integer.MAX_VALUE}[random.nextInt(4)] : pick(0, most); }
  private int number() { return rarely(60) ? new int[] {-2, 99, 100, Integer.MIN_VALUE, Integer.MAX_VALUE}[random.nextInt(5)] : pick(0, limit); }

  private void same(String call, Object got, Object want) {
    calls.add(call + " -> " + got);
    if (!Objects.equals(got, want)) {
      bad = true;
      wrong++;
      System.out.println("wrong: " + call + " answered " + got + ", the model " + want + "; behind " + calls);
    }
  }

  private String blanks() { return rarely(10) ? " ".repeat(pick(1, 2)) : ""; }
  private String digits(int n) { return n < 10 && rarely(12) ? "0" + n : "" + n; }

  private String tablesText() {
    StringBuilder s = new StringBuilder();
    int many = pick(1, 4);
    if (rarely(40)) many = 5;
    for (int t = 0; t < many; t++) {
      if (t > 0) s.append(blanks()).append(";");
      List<Integer> letters = new ArrayList<>(List.of(0, 1, 2, 3));
      Collections.shuffle(letters, random);
      int width = rarely(60) ? 4 : pick(1, 3);
      for (int k = 0; k < width; k++) s.append(blanks()).append((char) ('a' + letters.get(k)));
      s.append(blanks()).append(":");
      int rows = rarely(8) ? 12 : rarely(60) ? 13 : pick(0, 6);
      for (int i = 0; i < rows; i++) {
        if (i > 0) s.append(blanks()).append("/");
        for (int k = 0; k < width; k++) s.append(k > 0 ? blanks() + "," : "").append(blanks()).append(digits(pick(0, limit)));
      }
    }
    return s.append(blanks()).toString();
  }

  private String scriptText() {
    StringBuilder s = new StringBuilder();
    int many = rarely(30) ? 13 : pick(1, 12);
    for (int i = 0; i < many; i++) {
      if (i > 0) s.append(blanks()).append(";");
      int sort = pick(0, 5) % 4;
      s.append(blanks()).append("ptuo".charAt(sort)).append(blanks());
      if (sort == 3) { s.append(digits(rarely(30) ? pick(20, 30) : pick(0, 23))); continue; }
      int t = rarely(20) ? pick(0, 9) : pick(0, Math.max(0, m.now.many() - 1));
      s.append(t);
      if (sort == 2) continue;
      s.append(blanks()).append(":");
      int width = t < m.now.many() && !rarely(15) ? m.now.letters.get(t).size() : pick(1, 3);
      for (int k = 0; k < width; k++) s.append(k > 0 ? blanks() + "," : "").append(blanks()).append(digits(pick(0, limit)));
    }
    return s.append(blanks()).toString();
  }

  private String spoil(String text) {
    StringBuilder s = new StringBuilder(text);
    String signs = "abcde:;/,0123456789 ptuoq~\377";
    int i = random.nextInt(s.length() + 1);
    char c = signs.charAt(random.nextInt(signs.length()));
    int how = pick(0, 3);
    if (how == 0 && i < s.length()) s.deleteCharAt(i);
    else if (how == 1) s.insert(i, c);
    else if (how == 2 && i < s.length()) s.setCharAt(i, c);
    else s.setLength(i);
    return s.toString();
  }

  private void feedText(String text) {
    for (int i = 0; i < text.length(); i += 20) {
      int[] w = new int[5];
      for (int k = 0; k < 20 && i + k < text.length(); k++) w[k / 4] |= (text.charAt(i + k) & 255) << 24 - 8 * (k % 4);
      same("feed(" + w[0] + ", " + w[1] + ", " + w[2] + ", " + w[3] + ", " + w[4] + ")", x.feed(w[0], w[1], w[2], w[3], w[4]), m.feed(w));
    }
  }

  private void tellText(int sort) {
    if (!rarely(15)) same("end(0)", x.end(0), m.end(0));
    String text = sort == 0 ? tablesText() : scriptText();
    if (rarely(4)) text = spoil(text);
    feedText(text);
    if (rarely(10)) { int n = pick(-1, m.length + 1); same("end(" + n + ")", x.end(n), m.end(n)); }
    for (int k = -1; k < 3; k++) same("fault(" + k + ")", x.fault(k), m.fault(k));
    int k = rarely(20) ? 2 : sort;
    same("text(" + k + ")", x.text(k), m.text(k));
  }

  private Integer tableOf(int t, int w) {
    try { return x.table(t, w); } catch (NoSuchElementException e) { return null; }
  }

  private void ask() {
    int a = number(), b = number(), c = number(), d = number();
    int t = table(), l = what(3), o = what(3);
    switch (pick(0, 21)) {
      case 0: { int w = what(4); same("rule(" + w + ")", x.rule(w), m.rule(w)); break; }
      case 1: { same("table(" + t + ", " + o + ")", tableOf(t, o), m.table(t, o)); break; }
      case 2: { int i = what(12), k = what(2); same("cell(" + t + ", " + i + ", " + k + ")", x.cell(t, i, k), m.cell(t, i, k)); break; }
      case 3: { same("rows()", x.rows(), m.rows()); break; }
      case 4: { int i = rarely(10) ? what(200) : pick(0, Math.max(0, m.rows())); same("row(" + i + ", " + l + ")", x.row(i, l), m.row(i, l)); break; }
      case 5: { same("leaps()", x.leaps(), m.leaps()); break; }
      case 6: { int n = what(4); same("beginnings(" + n + ")", x.beginnings(n), m.beginnings(n)); break; }
      case 7: { int w = what(1); same("best(" + w + ")", x.best(w), m.best(w)); break; }
      case 8: { same("plain()", x.plain(), m.plain()); break; }
      case 9: { same("given(" + t + ")", x.given(t), m.given(t)); break; }
      case 10: { same("without(" + t + ")", x.without(t), m.without(t)); break; }
      case 11: { int p = what(16); same("projected(" + p + ")", x.projected(p), m.projected(p)); break; }
      case 12: { same("times(" + l + ", " + a + ")", x.times(l, a), m.times(l, a)); break; }
      case 13: { same("distinct(" + l + ", " + o + ")", x.distinct(l, o), m.distinct(l, o)); break; }
      case 14: { same("tells(" + l + ", " + o + ")", x.tells(l, o), m.tells(l, o)); break; }
      case 15: { same("behind(" + a + ", " + b + ", " + c + ", " + d + ")", x.behind(a, b, c, d), m.behind(a, b, c, d)); break; }
      case 16: {
        List<int[]> rows = m.rowsNow();
        if (!rows.isEmpty() && !rarely(3)) { int[] r = rows.get(random.nextInt(rows.size())); a = r[0]; b = r[1]; c = r[2]; d = r[3]; }
        same("has(" + a + ", " + b + ", " + c + ", " + d + ")", x.has(a, b, c, d), m.has(a, b, c, d));
        same("behind(" + a + ", " + b + ", " + c + ", " + d + ")", x.behind(a, b, c, d), m.behind(a, b, c, d));
        break;
      }
      case 17: { same("mean(" + l + ")", x.mean(l), m.mean(l)); break; }
      case 18: { int w = what(1); same("meanAs(" + l + ", " + w + ")", x.meanAs(l, w), m.meanAs(l, w)); break; }
      case 19: { same("spread(" + l + ")", x.spread(l), m.spread(l)); break; }
      case 20: { same("skew(" + l + ")", x.skew(l), m.skew(l)); break; }
      default: { int w = what(6); same("most(" + w + ")", x.most(w), m.most(w)); break; }
    }
  }

  private int[] rowFor(int t) {
    int[] v = {number(), number(), number()};
    if (!m.noTable(t) && !rarely(25)) for (int k = m.now.letters.get(t).size(); k < 3; k++) v[k] = -1;
    return v;
  }

  private void act() {
    int t = table();
    int[] v = rowFor(t);
    String args = t + ", " + v[0] + ", " + v[1] + ", " + v[2];
    switch (pick(0, 9)) {
      case 0: case 1: case 2: same("put(" + args + ")", x.put(t, v[0], v[1], v[2]), m.put(t, v[0], v[1], v[2])); break;
      case 3: case 4:
        if (!m.noTable(t) && !rarely(4)) {
          int i = pick(0, 5);
          for (int k = 0; k < 3; k++) v[k] = m.cell(t, i, k);
          args = t + ", " + v[0] + ", " + v[1] + ", " + v[2];
        }
        same("take(" + args + ")", x.take(t, v[0], v[1], v[2]), m.take(t, v[0], v[1], v[2]));
        break;
      case 5: same("use(" + t + ")", x.use(t), m.use(t)); break;
      case 6: { int o = what(23); same("order(" + o + ")", x.order(o), m.order(o)); break; }
      case 7: { int w = what(1); same("would(" + args + ", " + w + ")", x.would(t, v[0], v[1], v[2], w), m.would(t, v[0], v[1], v[2], w)); break; }
      default: { int n = rarely(4) ? what(40) : pick(0, 6); long seed = random.nextLong(); same("ways(" + n + ", " + seed + ")", x.ways(n, seed), m.ways(n, seed)); break; }
    }
  }

  private void keep() {
    int s = rarely(15) ? what(4) : pick(0, Math.max(0, m.scripts.size() - 1));
    switch (pick(0, 9)) {
      case 0: case 1: for (int k = rarely(6) ? 45 : pick(1, 3); k > 0; k--) same("undo()", x.undo(), m.undo()); break;
      case 2: { int i = what(62), w = what(2); same("log(" + i + ", " + w + ")", x.log(i, w), m.log(i, w)); break; }
      case 3: { int i = what(11), w = what(4); same("step(" + s + ", " + i + ", " + w + ")", x.step(s, i, w), m.step(s, i, w)); break; }
      case 4: { int w = what(1); same("run(" + s + ", " + w + ")", x.run(s, w), m.run(s, w)); break; }
      case 5: same("perform(" + s + ")", x.perform(s), m.perform(s)); break;
      case 6: same("image()", x.image(), m.image()); break;
      case 7: if (rarely(2)) same("back()", x.back(), m.back()); break;
      case 8: { int w = what(4); same("count(" + w + ")", x.count(w), m.count(w)); break; }
      default: { int w = what(3); same("status(" + w + ")", x.status(w), m.status(w)); break; }
    }
  }

  /** All that can be looked at in few calls. */
  private void lookAround() {
    for (int w = 0; w < 5; w++) { same("rule(" + w + ")", x.rule(w), m.rule(w)); same("count(" + w + ")", x.count(w), m.count(w)); }
    for (int w = 0; w < 4; w++) same("status(" + w + ")", x.status(w), m.status(w));
    for (int i = 0; i < 61; i += 5) for (int w = 0; w < 3; w++) same("log(" + i + ", " + w + ")", x.log(i, w), m.log(i, w));
    for (int l = 0; l < 4; l++) { same("mean(" + l + ")", x.mean(l), m.mean(l)); same("spread(" + l + ")", x.spread(l), m.spread(l)); }
    same("leaps()", x.leaps(), m.leaps());
  }

  private void go() {
    if (!rarely(10)) tellText(0);
    if (!rarely(3)) tellText(1);
    int most = pick(30, 330);
    while (calls.size() < most && !bad) {
      int k = pick(0, 99);
      if (k < 3) tellText(0);
      else if (k < 6) tellText(1);
      else if (k < 30) act();
      else if (k < 50) keep();
      else ask();
    }
    if (!bad) lookAround();
  }

  public static void main(String[] args) {
    int runs = args.length > 0 ? Integer.parseInt(args[0]) : RUNS;
    long first = args.length > 1 ? Long.parseLong(args[1]) : 1;
    for (long seed = first; seed < first + runs && wrong < 5; seed++) new RandomRuns(seed).go();
    System.out.println(wrong == 0 ? runs + " runs answer as the model does" : "some answers are wrong");
    if (wrong != 0) System.exit(1);
  }
}
