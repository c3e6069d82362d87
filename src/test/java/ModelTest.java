import java.util.ArrayDeque;
import java.util.ArrayList;
import java.util.Arrays;
import java.util.List;
import java.util.Random;
import java.util.regex.Matcher;
import java.util.regex.Pattern;

/** Runs of drawn calls, each answer against a second, slower writing of the document. */
public final class ModelTest {
  private static final int BAD = -1, NO = -2, FULL = -3, NONE = -4;
  private static int wrong = 0;

  /** All that a TEXT tells. */
  private static final class Told {
    int rows = 5, cols = 4, start = 0;
    int[] kind = new int[25];
    List<Integer> damp = new ArrayList<>();
    List<int[]> rent = new ArrayList<>();
    List<Integer> heir = new ArrayList<>();
    int cells() { return rows * cols; }
    int damp(int n) { return damp.isEmpty() ? 3 : damp.get(n % damp.size()); }
  }

  /** A churchyard on a night. */
  private static final class Now {
    int[] kind; int snail, night, begun = -1; boolean slept;
    Now(int[] kind, int snail, int night, int begun) { this.kind = kind.clone(); this.snail = snail; this.night = night; this.begun = begun; }
    Now copy() { return new Now(kind, snail, night, begun); }
  }

  private static final class Model {
    String text = "";
    Told told;
    Now now;
    ArrayDeque<Now> done = new ArrayDeque<>();
    ArrayDeque<Now> kept = new ArrayDeque<>();
    List<int[]> seen = new ArrayList<>();

    Model() {
      told = new Told();
      read("y5,4;k5,1;k6,2;k9,4;k11,3;k12,1;k14,1;s1;d4;d0;d2;r3,10;r5,4;r9,7;h0;h3;", told);
      now = first();
    }

    Now first() { return new Now(told.kind, told.start, 0, -1); }

    static int read(String text, Told t) {
      int at = 0;
      boolean only = true;
      Matcher one = Pattern.compile("([sdh])(\\d\\d?);|([ykr])(\\d\\d?),(\\d\\d?);").matcher(text);
      while (at < text.length()) {
        if (!one.find(at) || one.start() != at) return at;
        String letter = one.group(1) != null ? one.group(1) : one.group(3);
        int a = Integer.parseInt(one.group(1) != null ? one.group(2) : one.group(4));
        int b = one.group(1) != null ? 0 : Integer.parseInt(one.group(5));
        boolean ok;
        switch (letter) {
          case "y": ok = only && a >= 3 && a <= 5 && b >= 2 && b <= 5; if (ok) { t.rows = a; t.cols = b; } break;
          case "k": ok = a < t.cells() && b <= 4; if (ok) t.kind[a] = b; break;
          case "s": ok = a < t.cols; if (ok) t.start = a; break;
          case "d": ok = a <= 9 && t.damp.size() < 9; if (ok) t.damp.add(a); break;
          case "r": ok = a <= 60 && b >= 1 && t.rent.size() < 5; if (ok) t.rent.add(new int[] {a, b}); break;
          default: ok = a <= 4 && t.heir.size() < 4; if (ok) t.heir.add(a); break;
        }
        if (!ok) return at;
        only &= letter.equals("y");
        at = one.end();
      }
      t.kind[t.start] = 0;
      return NONE;
    }

    boolean is(int x) { return x >= 0 && x < told.cells(); }

    boolean beside(int x, int y) {
      int dr = Math.abs(x / told.cols - y / told.cols), dc = Math.abs(x % told.cols - y % told.cols);
      return dr + dc == 1;
    }

    static int into(int kind, int damp) {
      return kind == 1 ? 3 : kind == 4 ? (damp < 3 ? 1 : 2) : 1;
    }

    /** STEPS between all CELLS, by Floyd's way. */
    int[][] table(int[] kind) {
      int n = told.cells();
      int[][] d = new int[n][n];
      for (int x = 0; x < n; x++) for (int y = 0; y < n; y++)
        d[x][y] = x == y ? 0 : beside(x, y) && kind[y] != 2 ? into(kind[y], 9) : 9999;
      for (int m = 0; m < n; m++) for (int x = 0; x < n; x++) for (int y = 0; y < n; y++)
        d[x][y] = Math.min(d[x][y], d[x][m] + d[m][y]);
      return d;
    }

    void night(Now w, int damp) {
      w.slept = false;
      int left = damp;
      for (boolean firstOne = true; w.begun < 0; firstOne = false) {
        int[][] d = table(w.kind);
        int goal = -1;
        for (int x = 0; x < told.cells(); x++)
          if (w.kind[x] == 3 && d[w.snail][x] <= 4 && (goal < 0 || d[w.snail][x] < d[w.snail][goal])) goal = x;
        if (goal < 0)
          for (int x = told.cells() - told.cols; x < told.cells(); x++)
            if (d[w.snail][x] < 9999 && (goal < 0 || d[w.snail][x] < d[w.snail][goal])) goal = x;
        if (goal < 0) break;
        int next = -1;
        for (int x = 0; x < told.cells() && next < 0; x++)
          if (beside(w.snail, x) && w.kind[x] != 2 && into(w.kind[x], 9) + d[x][goal] == d[w.snail][goal]) next = x;
        int steps = into(w.kind[next], damp);
        if (steps > left) { w.slept = firstOne; break; }
        left -= steps;
        w.snail = next;
        boolean ate = w.kind[next] == 3;
        if (ate) w.kind[next] = 0;
        if (next >= told.cells() - told.cols) w.begun = w.night;
        if (ate) break;
      }
      w.night++;
    }

    Now after(Now from, int n) {
      Now w = from.copy();
      for (int i = 0; i < n; i++) night(w, told.damp(w.night));
      return w;
    }

    int begins(Now from) {
      for (int n = 0; n <= 30; n++) if (after(from, n).begun >= 0) return n;
      return NONE;
    }

    int beginsFast(Now from) {
      Now w = from.copy();
      for (int n = 0; n <= 30; n++) { if (w.begun >= 0) return n; night(w, told.damp(w.night)); }
      return NONE;
    }

    int number(int kind) { int m = 0; for (int x = 0; x < told.cells(); x++) if (now.kind[x] == kind) m++; return m; }

    void doing() { done.addLast(now.copy()); if (done.size() > 8) done.removeFirst(); }

    boolean free(int x) { return now.kind[x] == 0 && now.snail != x; }

    int due() {
      int n = begins(now), sum = 0;
      int last = n == NONE ? 9999 : after(now, n).begun;
      for (int[] r : told.rent) if (r[0] <= last) sum += r[1];
      return sum;
    }

    int heir() {
      int n = begins(now), best = NONE;
      if (n == NONE) return NONE;
      int col = after(now, n).snail % told.cols;
      for (int i = told.heir.size() - 1; i >= 0; i--)
        if (best == NONE || Math.abs(told.heir.get(i) - col) <= Math.abs(told.heir.get(best) - col)) best = i;
      return best;
    }

    int layFor(int a, int b, int k) {
      if (a < 0 || a > 30 || b < 0 || b > 30 || k < 0 || k > 2) return BAD;
      List<int[]> sets = new ArrayList<>();
      sets.add(new int[0]);
      for (int x = 0; x < told.cells(); x++) if (free(x)) sets.add(new int[] {x});
      for (int x = 0; x < told.cells(); x++) for (int y = x + 1; y < told.cells(); y++) if (free(x) && free(y)) sets.add(new int[] {x, y});
      for (int[] set : sets) {
        Now w = now.copy();
        for (int x : set) w.kind[x] = 3;
        int n = beginsFast(w);
        if (n != NONE && n >= a && n <= b) return k == 0 ? set.length : k <= set.length ? set[k - 1] : NONE;
      }
      return NONE;
    }

    int decides() {
      int bits = 0, was = begins(now);
      for (int x = 0; x < told.cells(); x++) if (now.kind[x] == 1) {
        Now w = now.copy();
        w.kind[x] = 0;
        if (begins(w) != was) bits |= 1 << x;
      }
      return bits;
    }

    int latest(int what) {
      if (what != 0 && what != 1) return BAD;
      int place = NONE, nights = NONE;
      for (int x = told.cells() - 1; x >= 0; x--) if (free(x)) {
        Now w = now.copy();
        w.kind[x] = 2;
        int n = beginsFast(w);
        if (n != NONE && n >= nights) { nights = n; place = x; }
      }
      return what == 0 ? place : nights;
    }

    boolean fits(int salted) {
      Now w = first();
      if (salted >= 0) w.kind[salted] = 2;
      for (int[] s : seen) if (after(w, s[1]).snail != s[0]) return false;
      return true;
    }

    int salter(int what) {
      if (what != 0 && what != 1) return BAD;
      if (what == 1) return fits(-1) ? 1 : 0;
      int bits = 0;
      for (int x = 0; x < told.cells(); x++) if (told.kind[x] == 0 && x != told.start && fits(x)) bits |= 1 << x;
      return bits;
    }

    int slept() {
      int bits = 0;
      Now w = first();
      for (int n = 0; n < 30; n++) { night(w, told.damp(n)); if (w.slept) bits |= 1 << n; }
      return bits;
    }

    /** By all 2 to the n ways of n nights. */
    long[] likely(int n, int x) {
      long above = 0, below = 1;
      for (int i = 0; i < n; i++) below *= 10;
      for (int way = 0; way < 1 << n; way++) {
        Now w = now.copy();
        long weight = 1;
        for (int i = 0; i < n; i++) {
          boolean wet = (way >> i & 1) == 1;
          night(w, wet ? 6 : 0);
          weight *= wet ? x : 10 - x;
        }
        if (w.begun >= 0) above += weight;
      }
      return new long[] {above, below};
    }

    int likely(int n, int x, int part) {
      if (n < 0 || n > 6 || x < 0 || x > 10 || part < 0 || part > 1) return BAD;
      long[] f = likely(n, x);
      for (long p : new long[] {2, 5}) while (f[0] % p == 0 && f[1] % p == 0) { f[0] /= p; f[1] /= p; }
      return (int) f[part];
    }

    int bet(int n, int x) {
      if (n < 0 || n > 6 || x < 0 || x > 10) return BAD;
      long[] f = likely(n, x);
      return 2 * f[0] > f[1] ? 1 : 2 * f[0] < f[1] ? 2 : 0;
    }

    int year(int z, int what) {
      return z < 0 || z > 9999 || what < 0 || what > 1 ? BAD : year(z, what, 30);
    }

    int year(int z, int what, int most) {
      Now w = now.copy();
      for (int k = 0; k <= most; k++) {
        if (w.begun >= 0) return what == 0 ? k : w.snail;
        if (k == most) break;
        long q = 7919L * z + 6151L * k + 1;
        long draw = Math.floorDiv(Math.floorMod(q * q, 65521L), 8L);
        night(w, (int) (draw % 7));
      }
      return what == 0 ? NONE : w.snail;
    }

    int call(String name, int... a) {
      switch (name) {
        case "write": if (a[0] < 32 || a[0] > 126) return BAD; if (text.length() == 200) return FULL; text += (char) a[0]; return text.length();
        case "wipe": { int n = text.length(); text = ""; return n; }
        case "fault": return read(text, new Told());
        case "lay": {
          Told t = new Told();
          if (text.isEmpty() || read(text, t) != NONE) return NO;
          told = t; now = first(); done.clear(); kept.clear(); seen.clear();
          return t.cells();
        }
        case "cell": if (!is(a[0]) || a[1] < 0 || a[1] > 1) return BAD;
          return a[1] == 0 ? now.kind[a[0]] : now.kind[a[0]] == 2 ? NONE : into(now.kind[a[0]], told.damp(now.night));
        case "damp": return a[0] < 0 || a[0] > 999 ? BAD : told.damp(a[0]);
        case "pass": if (a[0] < 1 || a[0] > 30) return BAD; if (now.night + a[0] > 999) return NO;
          doing(); now = after(now, a[0]); return now.night;
        case "lettuce": if (!is(a[0])) return BAD; if (!free(a[0])) return NO;
          doing(); now.kind[a[0]] = 3; return number(3);
        case "salt": { if (!is(a[0])) return BAD; int k = now.kind[a[0]]; if (a[0] == now.snail || k == 1 || k == 2) return NO;
          doing(); now.kind[a[0]] = 2; return k; }
        case "stone": if (!is(a[0]) || !is(a[1])) return BAD; if (now.kind[a[0]] != 1 || !free(a[1])) return NO;
          doing(); now.kind[a[0]] = 0; now.kind[a[1]] = 1; return number(1);
        case "undo": if (done.isEmpty()) return NO; now = done.removeLast(); return done.size();
        case "where": return a[0] < 0 || a[0] > 30 ? BAD : after(now, a[0]).snail;
        case "begins": return begins(now);
        case "due": return due();
        case "heir": return heir();
        case "far": { if (!is(a[0])) return BAD; int f = table(now.kind)[now.snail][a[0]]; return f < 9999 ? f : NONE; }
        case "layFor": return layFor(a[0], a[1], a[2]);
        case "decides": return decides();
        case "latest": return latest(a[0]);
        case "seen": if (!is(a[0]) || a[1] < 0 || a[1] > 30) return BAD; if (seen.size() == 8) return FULL;
          seen.add(new int[] {a[0], a[1]}); return seen.size();
        case "forget": { int n = seen.size(); seen.clear(); return n; }
        case "salter": return salter(a[0]);
        case "slept": return slept();
        case "likely": return likely(a[0], a[1], a[2]);
        case "bet": return bet(a[0], a[1]);
        case "year": return year(a[0], a[1]);
        case "keep": if (kept.size() == 2) return FULL; kept.addLast(now.copy()); return kept.size();
        case "back": if (kept.isEmpty()) return NO; now = kept.removeLast(); done.clear(); return kept.size();
        default: return count(a[0]);
      }
    }

    int count(int what) {
      int[] all = {told.cells(), told.cols, now.night, now.snail, number(3), number(1), number(2),
          told.rent.size(), told.heir.size(), seen.size(), done.size(), kept.size(), text.length()};
      return what < 0 || what > 12 ? BAD : all[what];
    }
  }

  private static int real(SnailsYear x, String name, int... a) {
    switch (name) {
      case "write": return x.write(a[0]);
      case "wipe": return x.wipe();
      case "fault": return x.fault();
      case "lay": return x.lay();
      case "cell": return x.cell(a[0], a[1]);
      case "damp": return x.damp(a[0]);
      case "pass": return x.pass(a[0]);
      case "lettuce": return x.lettuce(a[0]);
      case "salt": return x.salt(a[0]);
      case "stone": return x.stone(a[0], a[1]);
      case "undo": return x.undo();
      case "where": return x.where(a[0]);
      case "begins": return x.begins();
      case "due": return x.due();
      case "heir": return x.heir();
      case "far": return x.far(a[0]);
      case "layFor": return x.layFor(a[0], a[1], a[2]);
      case "decides": return x.decides();
      case "latest": return x.latest(a[0]);
      case "seen": return x.seen(a[0], a[1]);
      case "forget": return x.forget();
      case "salter": return x.salter(a[0]);
      case "slept": return x.slept();
      case "likely": return x.likely(a[0], a[1], a[2]);
      case "bet": return x.bet(a[0], a[1]);
      case "year": return x.year(a[0], a[1]);
      case "keep": return x.keep();
      case "back": return x.back();
      default: return x.count(a[0]);
    }
  }

  private static final Random random = new Random(20261118);

  private static int from(int low, int high) { return low + random.nextInt(high - low + 1); }

  private static int far() { return random.nextBoolean() ? Integer.MIN_VALUE + random.nextInt(3) : Integer.MAX_VALUE - random.nextInt(3); }

  /** In the range that is told, now and then just outside it, or far out. */
  private static int near(int low, int high) {
    int chance = random.nextInt(60);
    return chance == 0 ? far() : chance == 1 ? low - 1 : chance == 2 ? high + 1 : from(low, high);
  }

  private static final String[] NAMES = {"fault", "cell", "damp", "pass", "pass", "pass", "lettuce", "lettuce", "salt", "salt",
      "stone", "stone", "undo", "where", "begins", "begins", "due", "heir", "far", "far", "layFor", "decides", "latest", "seen", "forget",
      "salter", "slept", "likely", "bet", "year", "keep", "back", "count", "count", "write", "wipe", "lay"};

  private static int[] arguments(String name, Model m) {
    int last = m.told.cells() - 1;
    switch (name) {
      case "write": return new int[] {near(32, 126)};
      case "cell": return new int[] {near(0, last), near(0, 1)};
      case "damp": return new int[] {near(0, 999)};
      case "pass": return new int[] {random.nextInt(40) == 0 ? near(1, 30) : near(1, 2)};
      case "lettuce": case "salt": case "far": return new int[] {near(0, last)};
      case "stone": {
        int x = near(0, last);
        for (int i = 0; i < 6 && m.is(x) && m.now.kind[x] != 1; i++) x = from(0, last);
        return new int[] {x, near(0, last)};
      }
      case "where": return new int[] {near(0, 30)};
      case "layFor": { int a = near(0, 12); return new int[] {a, random.nextInt(4) == 0 ? near(0, 30) : Math.min(30, Math.max(0, a) % 31 + from(0, 3)), near(0, 2)}; }
      case "latest": case "salter": return new int[] {near(0, 1)};
      case "seen": {
        int n = near(0, 30);
        if (n >= 0 && n <= 30 && random.nextInt(4) != 0) return new int[] {m.after(m.first(), n).snail, n};
        return new int[] {near(0, last), n};
      }
      case "likely": return new int[] {near(0, 6), near(0, 10), near(0, 1)};
      case "bet": return new int[] {near(0, 6), near(0, 10)};
      case "year": return new int[] {near(0, 9999), near(0, 1)};
      case "count": return new int[] {near(0, 12)};
      default: return new int[0];
    }
  }

  private static String number(int low, int high) {
    int n = random.nextInt(150) == 0 ? from(0, 120) : from(low, high);
    return n < 10 && random.nextInt(20) == 0 ? "0" + n : "" + n;
  }

  private static String drawText() {
    StringBuilder b = new StringBuilder();
    int rows = 5, cols = 4;
    for (int i = random.nextInt(5) - 2; i < 1; i++) if (random.nextInt(4) != 0) {
      rows = from(3, 5); cols = from(2, 5);
      b.append("y").append(rows).append(",").append(cols).append(";");
    }
    int cells = from(0, rows * cols / 2 + 3);
    int[] kinds = random.nextInt(3) == 0 ? new int[] {0, 1, 2, 2, 2, 3, 4} : new int[] {0, 1, 1, 1, 2, 3, 3, 4, 4};
    for (int i = 0; i < cells; i++) b.append("k").append(number(0, rows * cols - 1)).append(",").append(kinds[random.nextInt(kinds.length)]).append(";");
    if (random.nextInt(3) != 0) b.append("s").append(number(0, cols - 1)).append(";");
    for (int i = from(0, random.nextInt(12) == 0 ? 10 : 6); i > 0; i--) b.append("d").append(number(0, random.nextBoolean() ? 9 : 4)).append(";");
    for (int i = from(0, random.nextInt(12) == 0 ? 6 : 5); i > 0; i--) b.append("r").append(number(0, random.nextBoolean() ? 12 : 60)).append(",").append(number(1, 99)).append(";");
    for (int i = from(0, random.nextInt(12) == 0 ? 5 : 4); i > 0; i--) b.append("h").append(number(0, 4)).append(";");
    for (int i = random.nextInt(12) - 10; i > 0 && b.length() > 0; i--) {
      int at = random.nextInt(b.length());
      char c = "yksdrhx,;0123 ".charAt(random.nextInt(14));
      if (random.nextBoolean()) b.setCharAt(at, c); else if (random.nextBoolean()) b.insert(at, c); else b.deleteCharAt(at);
    }
    return b.toString();
  }

  private static boolean step(int run, SnailsYear x, Model m, StringBuilder told, String name, int... a) {
    int want = m.call(name, a);
    int got = real(x, name, a);
    told.append(name).append(Arrays.toString(a)).append(" ");
    if (got == want) return true;
    wrong++;
    System.out.println("run " + run + ": " + name + Arrays.toString(a) + " answered " + got + ", due is " + want + "; calls: " + told);
    return false;
  }

  private static void run(int number) {
    SnailsYear x = new SnailsYear();
    Model m = new Model();
    StringBuilder told = new StringBuilder();
    boolean well = true;
    if (number % 8 != 0) {
      for (char c : drawText().toCharArray()) well = well && step(number, x, m, told, "write", c);
      well = well && step(number, x, m, told, "fault") && step(number, x, m, told, "lay");
    }
    for (int i = 0; i < 70 && well; i++) {
      String name = NAMES[random.nextInt(NAMES.length)];
      if ((name.equals("lay") || name.equals("wipe")) && random.nextInt(8) != 0) continue;
      well = step(number, x, m, told, name, arguments(name, m));
    }
    for (int what = 0; what <= 12 && well; what++) well = step(number, x, m, told, "count", what);
    for (int c = 0; c < m.told.cells() && well; c++) well = step(number, x, m, told, "cell", c, 0);
  }

  /** LETTUCE everywhere takes so many nights that some YEARS by draws begin behind 30, some behind 31. */
  private static void longYears() {
    String text = "y5,5;";
    for (int c = 1; c < 25; c++) text += "k" + c + (c < 20 ? ",3;" : ",2;");
    text = text.replace("k22,2;", "k22,1;");
    SnailsYear x = null;
    Model m = null;
    StringBuilder told = null;
    boolean at30 = false, at31 = false;
    for (int z = 0; z <= 9999 && !(at30 && at31 && z > 300); z++) {
      if (z % 150 == 0) {                          // an object is promised for 512 calls
        x = new SnailsYear();
        m = new Model();
        told = new StringBuilder();
        for (char c : text.toCharArray()) step(0, x, m, told, "write", c);
        step(0, x, m, told, "lay");
      }
      step(0, x, m, told, "year", z, 0);
      step(0, x, m, told, "year", z, 1);
      at30 |= m.year(z, 0, 30) == 30;
      at31 |= m.year(z, 0, 31) == 31;
    }
    if (!at30 || !at31) { wrong++; System.out.println("no year begins behind 30, or none behind 31"); }
  }

  public static void main(String[] args) {
    longYears();
    int runs = args.length > 0 ? Integer.parseInt(args[0]) : 400;
    for (int number = 1; number <= runs && wrong < 5; number++) run(number);
    System.out.println(wrong == 0 ? "the model agrees" : wrong + " answers are not the model's");
    if (wrong != 0) System.exit(1);
  }
}
