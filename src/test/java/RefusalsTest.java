import java.util.ArrayList;
import java.util.List;
import java.util.function.Consumer;
import java.util.function.ToIntFunction;

/**
 * "BAD: a number is none that is told. NO: not as things stand. NONE: there is none. FULL. Of several
 * the first; nothing changes then." Each call that is refused, with what it answers, and all that can
 * be asked behind it against an object on which it was never called. Questions change nothing, either.
 */
public final class RefusalsTest {
  private static final int BAD = -1, NO = -2, FULL = -3, NONE = -4;
  private static final int MIN = Integer.MIN_VALUE, MAX = Integer.MAX_VALUE;
  private static final int[] FAR_OUT = {MIN, MIN + 1, -100, MAX - 1, MAX};
  private static int wrong = 0;

  private static void write(SnailsYear x, String text) {
    for (char c : text.toCharArray()) x.write(c);
  }

  // ---- states to call in: each leaves room for some 250 calls of the 512 that are promised

  /** As told at first. */
  private static void fresh(SnailsYear x) {
  }

  /** Something of all: a TEXT with a FAULT, done, SEEN and KEPT, neither empty nor full. */
  private static void busy(SnailsYear x) {
    x.lettuce(0);
    x.salt(7);
    x.keep();
    x.stone(5, 4);
    x.pass(1);
    x.seen(11, 1);
    x.seen(19, 3);
    write(x, "y3,2;s9;");
  }

  /** As busy, but the TEXT could be LAID, and a night with SHADE of 1 comes. */
  private static void layable(SnailsYear x) {
    write(x, "y3,3;k4,1;d5;r0,7;h1;");
    x.pass(2);
    x.salt(3);
    x.seen(1, 0);
    x.keep();
    x.lettuce(16);
  }

  /** Full: 200 letters, 8 that can be UNDONE, 8 SEEN, 2 KEPT. */
  private static void full(SnailsYear x) {
    write(x, "y5,5;" + "s0;".repeat(65));
    for (int i = 0; i < 4; i++) x.pass(1);
    x.keep();
    for (int c = 0; c < 6; c++) x.lettuce(c);
    x.keep();
    for (int n = 0; n < 8; n++) x.seen(n, n);
  }

  /** On night 980, the YEAR long begun. */
  private static void late(SnailsYear x) {
    for (int i = 0; i < 32; i++) x.pass(30);
    x.pass(20);
    x.keep();
  }

  /** On the last night. */
  private static void last(SnailsYear x) {
    late(x);
    x.pass(19);
  }

  /** No way anywhere, on a YARD of six. */
  private static void walled(SnailsYear x) {
    write(x, "y3,2;k1,2;k2,2;k3,1;k4,4;k5,3;d9;r1,5;");
    x.lay();
  }

  /** The SNAIL on a GRAVE. */
  private static void onGrave(SnailsYear x) {
    write(x, "y3,2;k1,2;k2,1;d3;");
    x.lay();
    x.pass(1);
  }

  /** A YARD is LAID, and another TEXT written since, that has a FAULT. */
  private static void rewritten(SnailsYear x) {
    write(x, "y4,3;k4,1;k5,3;s1;d2;r0,3;h2;");
    x.lay();
    x.wipe();
    x.seen(4, 1);
    x.keep();
    x.lettuce(9);
    write(x, "y3,2;k3,2;s0;d9;d8;r5,5;h0;h1;k6,0;");
  }

  /** As that, but the other TEXT could be LAID. */
  private static void overwritten(SnailsYear x) {
    rewritten(x);
    x.wipe();
    write(x, "y3,2;k3,2;s0;d9;d8;r5,5;h0;h1;");
  }

  // ---- all that can be asked

  private static final List<Consumer<SnailsYear>> STATES = List.of(RefusalsTest::fresh, RefusalsTest::busy, RefusalsTest::layable,
      RefusalsTest::full, RefusalsTest::late, RefusalsTest::last, RefusalsTest::walled, RefusalsTest::onGrave,
      RefusalsTest::rewritten, RefusalsTest::overwritten);

  private static void cells(SnailsYear x, StringBuilder told) {
    for (int c = 0; c < x.count(0); c++) told.append(x.cell(c, 0));
    told.append(" night ").append(x.count(2)).append(" snail ").append(x.count(3)).append(" begins ").append(x.begins()).append('\n');
  }

  private static String now(SnailsYear x) {
    StringBuilder told = new StringBuilder();
    for (int what = 0; what <= 12; what++) told.append(x.count(what)).append(' ');
    cells(x, told);
    for (int n = 0; n < 9; n++) told.append(x.damp(n));
    for (int n = 0; n <= 30; n += 3) told.append(' ').append(x.where(n));
    told.append(' ').append(x.due()).append(' ').append(x.heir()).append(' ').append(x.slept()).append(' ').append(x.decides());
    for (int c = 0; c < x.count(0); c++) told.append(' ').append(x.far(c)).append('/').append(x.cell(c, 1));
    told.append(' ').append(x.fault()).append(' ').append(x.salter(0)).append(' ').append(x.salter(1));
    return told.toString();
  }

  private static String undone(SnailsYear x) {
    StringBuilder told = new StringBuilder();
    for (int i = 0; i <= 8; i++) {
      told.append(x.undo()).append(' ');
      for (int c = 0; c < 20; c += 1) told.append(x.cell(c, 0));
      told.append(' ').append(x.count(2)).append(' ').append(x.count(3)).append(' ').append(x.due()).append('\n');
    }
    return told.toString();
  }

  private static String kept(SnailsYear x) {
    StringBuilder told = new StringBuilder();
    for (int i = 0; i <= 2; i++) {
      told.append(x.back()).append(' ').append(x.due()).append(' ');
      cells(x, told);
    }
    return told.toString();
  }

  private static String text(SnailsYear x) {
    StringBuilder told = new StringBuilder();
    told.append(x.fault()).append(' ').append(x.lay()).append(' ').append(x.due()).append(' ').append(x.heir()).append(' ');
    cells(x, told);
    told.append(x.damp(0)).append(x.write('s')).append(' ').append(x.fault()).append(' ').append(x.wipe()).append(' ').append(x.forget());
    return told.toString();
  }

  private static final List<java.util.function.Function<SnailsYear, String>> VIEWS =
      List.of(RefusalsTest::now, RefusalsTest::undone, RefusalsTest::kept, RefusalsTest::text);

  /** What the call answers, if ANY is false, and that nothing has changed behind it. */
  private static void check(String name, Consumer<SnailsYear> state, ToIntFunction<SnailsYear> call, int want, boolean any) {
    for (var view : VIEWS) {
      SnailsYear without = new SnailsYear(), with = new SnailsYear();
      state.accept(without);
      state.accept(with);
      int got = call.applyAsInt(with);
      if (!any && got != want) {
        wrong++;
        System.out.println(name + " answered " + got + ", due is " + want);
        return;
      }
      if (!view.apply(without).equals(view.apply(with))) {
        wrong++;
        System.out.println(name + " changed something");
        return;
      }
    }
  }

  private static void refused(String name, Consumer<SnailsYear> state, ToIntFunction<SnailsYear> call, int want) {
    check(name, state, call, want, false);
  }

  private static int[] outside(int low, int high) {
    int[] all = new int[FAR_OUT.length + 2];
    System.arraycopy(FAR_OUT, 0, all, 0, FAR_OUT.length);
    all[FAR_OUT.length] = low - 1;
    all[FAR_OUT.length + 1] = high + 1;
    return all;
  }

  // ---- BAD

  /** A number that is none that is told is BAD as things ever stand: full, late, with no way. */
  private static void bad() {
    for (Consumer<SnailsYear> state : STATES) {
      SnailsYear probe = new SnailsYear();
      state.accept(probe);
      int last = probe.count(0) - 1;
      for (int v : outside(32, 126)) refused("write(" + v + ")", state, x -> x.write(v), BAD);
      for (int v : outside(0, last)) badCell(state, v);
      for (int v : outside(0, 1)) badWhat(state, v);
      for (int v : outside(0, 999)) refused("damp(" + v + ")", state, x -> x.damp(v), BAD);
      for (int v : outside(1, 30)) refused("pass(" + v + ")", state, x -> x.pass(v), BAD);
      for (int v : outside(0, 30)) {
        refused("where(" + v + ")", state, x -> x.where(v), BAD);
        refused("layFor(" + v + ", 3, 0)", state, x -> x.layFor(v, 3, 0), BAD);
        refused("layFor(3, " + v + ", 1)", state, x -> x.layFor(3, v, 1), BAD);
        refused("seen(0, " + v + ")", state, x -> x.seen(0, v), BAD);
      }
      for (int v : outside(0, 2)) refused("layFor(0, 30, " + v + ")", state, x -> x.layFor(0, 30, v), BAD);
      for (int v : outside(0, 6)) {
        refused("likely(" + v + ", 5, 0)", state, x -> x.likely(v, 5, 0), BAD);
        refused("bet(" + v + ", 5)", state, x -> x.bet(v, 5), BAD);
      }
      for (int v : outside(0, 10)) {
        refused("likely(3, " + v + ", 1)", state, x -> x.likely(3, v, 1), BAD);
        refused("bet(3, " + v + ")", state, x -> x.bet(3, v), BAD);
      }
      for (int v : outside(0, 9999)) refused("year(" + v + ", 0)", state, x -> x.year(v, 0), BAD);
      for (int v : outside(0, 12)) refused("count(" + v + ")", state, x -> x.count(v), BAD);
    }
  }

  private static void badCell(Consumer<SnailsYear> state, int v) {
    refused("cell(" + v + ", 0)", state, x -> x.cell(v, 0), BAD);
    refused("cell(" + v + ", 1)", state, x -> x.cell(v, 1), BAD);
    refused("lettuce(" + v + ")", state, x -> x.lettuce(v), BAD);
    refused("salt(" + v + ")", state, x -> x.salt(v), BAD);
    for (int other = 0; other < 6; other++) {
      int y = other;
      refused("stone(" + v + ", " + y + ")", state, x -> x.stone(v, y), BAD);
      refused("stone(" + y + ", " + v + ")", state, x -> x.stone(y, v), BAD);
    }
    refused("stone(" + v + ", " + v + ")", state, x -> x.stone(v, v), BAD);
    refused("far(" + v + ")", state, x -> x.far(v), BAD);
    refused("seen(" + v + ", 0)", state, x -> x.seen(v, 0), BAD);
    refused("seen(" + v + ", 31)", state, x -> x.seen(v, 31), BAD);
  }

  private static void badWhat(Consumer<SnailsYear> state, int v) {
    refused("cell(0, " + v + ")", state, x -> x.cell(0, v), BAD);
    refused("latest(" + v + ")", state, x -> x.latest(v), BAD);
    refused("salter(" + v + ")", state, x -> x.salter(v), BAD);
    refused("likely(3, 5, " + v + ")", state, x -> x.likely(3, 5, v), BAD);
    refused("year(3, " + v + ")", state, x -> x.year(3, v), BAD);
  }

  // ---- NO

  private static void no() {
    refused("lay(), empty", RefusalsTest::fresh, x -> x.lay(), NO);
    refused("lay(), with a FAULT", RefusalsTest::busy, x -> x.lay(), NO);
    refused("lay(), empty", RefusalsTest::late, x -> x.lay(), NO);
    refused("lay(), another TEXT with a FAULT", RefusalsTest::rewritten, x -> x.lay(), NO);
    refused("pass(20) on night 980", RefusalsTest::late, x -> x.pass(20), NO);
    refused("pass(30) on night 980", RefusalsTest::late, x -> x.pass(30), NO);
    for (int n = 1; n <= 30; n++) {
      int nights = n;
      refused("pass(" + n + ") on night 999", RefusalsTest::last, x -> x.pass(nights), NO);
    }
    refused("undo()", RefusalsTest::fresh, x -> x.undo(), NO);
    refused("undo()", RefusalsTest::walled, x -> x.undo(), NO);
    refused("back()", RefusalsTest::fresh, x -> x.back(), NO);
    refused("back()", RefusalsTest::walled, x -> x.back(), NO);
    refused("back()", RefusalsTest::onGrave, x -> x.back(), NO);
    for (Consumer<SnailsYear> state : STATES) noDoings(state);
  }

  /** By the KINDS as they stand: what must be refused, and each of it. */
  private static void noDoings(Consumer<SnailsYear> state) {
    SnailsYear probe = new SnailsYear();
    state.accept(probe);
    int cells = probe.count(0), snail = probe.count(3);
    int[] kind = new int[cells];
    for (int c = 0; c < cells; c++) kind[c] = probe.cell(c, 0);
    for (int c = 0; c < cells; c++) {
      int at = c;
      if (kind[c] != 0 || c == snail) refused("lettuce(" + c + ")", state, x -> x.lettuce(at), NO);
      if (kind[c] == 1 || kind[c] == 2 || c == snail) refused("salt(" + c + ")", state, x -> x.salt(at), NO);
      for (int d = 0; d < cells; d++) {
        int to = d;
        if (kind[c] != 1 || kind[d] != 0 || d == snail) refused("stone(" + c + ", " + d + ")", state, x -> x.stone(at, to), NO);
      }
    }
  }

  // ---- NONE and FULL

  private static void noneAndFull() {
    refused("fault(), empty", RefusalsTest::fresh, x -> x.fault(), NONE);
    refused("fault()", RefusalsTest::layable, x -> x.fault(), NONE);
    refused("cell(6, 1), SALT", RefusalsTest::busy, x -> x.cell(6, 1), NONE);
    refused("begins()", RefusalsTest::walled, x -> x.begins(), NONE);
    refused("heir()", RefusalsTest::walled, x -> x.heir(), NONE);
    for (int c = 1; c < 6; c++) {
      int at = c;
      refused("far(" + c + ")", RefusalsTest::walled, x -> x.far(at), NONE);
    }
    for (int k = 0; k <= 2; k++) {
      int which = k;
      refused("layFor(0, 30, " + k + ")", RefusalsTest::walled, x -> x.layFor(0, 30, which), NONE);
      refused("layFor(0, 0, " + k + ")", RefusalsTest::busy, x -> x.layFor(0, 0, which), NONE);
      refused("layFor(5, 4, " + k + ")", RefusalsTest::busy, x -> x.layFor(5, 4, which), NONE);
      refused("layFor(1, 30, " + k + ")", RefusalsTest::last, x -> x.layFor(1, 30, which), NONE);
    }
    refused("latest(0)", RefusalsTest::walled, x -> x.latest(0), NONE);
    refused("latest(1)", RefusalsTest::walled, x -> x.latest(1), NONE);
    refused("year(0, 0)", RefusalsTest::walled, x -> x.year(0, 0), NONE);
    for (int letter : new int[] {32, 59, 's', 126}) refused("write(" + letter + ")", RefusalsTest::full, x -> x.write(letter), FULL);
    refused("keep()", RefusalsTest::full, x -> x.keep(), FULL);
    for (int n = 0; n <= 30; n += 10) {
      int night = n;
      refused("seen(0, " + n + ")", RefusalsTest::full, x -> x.seen(0, night), FULL);
      refused("seen(19, " + n + ")", RefusalsTest::full, x -> x.seen(19, night), FULL);
    }
  }

  // ---- questions

  private static void questions() {
    for (Consumer<SnailsYear> state : STATES) {
      asked("fault()", state, x -> x.fault());
      asked("begins()", state, x -> x.begins());
      asked("due()", state, x -> x.due());
      asked("heir()", state, x -> x.heir());
      asked("decides()", state, x -> x.decides());
      asked("slept()", state, x -> x.slept());
      for (int v = 0; v <= 1; v++) {
        int what = v;
        asked("cell(5, " + v + ")", state, x -> x.cell(5, what));
        asked("latest(" + v + ")", state, x -> x.latest(what));
        asked("salter(" + v + ")", state, x -> x.salter(what));
        asked("likely(6, 7, " + v + ")", state, x -> x.likely(6, 7, what));
        asked("year(77, " + v + ")", state, x -> x.year(77, what));
      }
      for (int v = 0; v <= 2; v++) {
        int k = v;
        asked("layFor(9, 30, " + v + ")", state, x -> x.layFor(9, 30, k));
      }
      asked("damp(999)", state, x -> x.damp(999));
      asked("where(30)", state, x -> x.where(30));
      asked("far(5)", state, x -> x.far(5));
      asked("bet(6, 5)", state, x -> x.bet(6, 5));
      for (int v = 0; v <= 12; v++) {
        int what = v;
        asked("count(" + v + ")", state, x -> x.count(what));
      }
    }
  }

  private static void asked(String name, Consumer<SnailsYear> state, ToIntFunction<SnailsYear> call) {
    check(name, state, call, 0, true);
  }

  /** That the states are what their names say: else a refusal in them would tell nothing. */
  private static void states() {
    List<int[]> want = new ArrayList<>();
    want.add(new int[] {20, 4, 0, 1, 1, 3, 1, 3, 2, 0, 0, 0, 0});
    want.add(new int[] {20, 4, 1, 0, 1, 3, 2, 3, 2, 2, 4, 1, 8});
    want.add(new int[] {20, 4, 2, 11, 1, 3, 2, 3, 2, 1, 3, 1, 21});
    want.add(new int[] {20, 4, 4, 19, 5, 3, 1, 3, 2, 8, 8, 2, 200});
    want.add(new int[] {20, 4, 980, 19, 0, 3, 1, 3, 2, 0, 8, 1, 0});
    want.add(new int[] {20, 4, 999, 19, 0, 3, 1, 3, 2, 0, 8, 1, 0});
    want.add(new int[] {6, 2, 0, 0, 1, 1, 2, 1, 0, 0, 0, 0, 38});
    want.add(new int[] {6, 2, 1, 2, 0, 1, 1, 0, 0, 0, 1, 0, 18});
    want.add(new int[] {12, 3, 0, 1, 2, 1, 0, 1, 1, 1, 1, 1, 35});
    want.add(new int[] {12, 3, 0, 1, 2, 1, 0, 1, 1, 1, 1, 1, 30});
    for (int i = 0; i < want.size(); i++) {
      SnailsYear x = new SnailsYear();
      STATES.get(i).accept(x);
      for (int what = 0; what <= 12; what++)
        if (x.count(what) != want.get(i)[what]) {
          wrong++;
          System.out.println("state " + i + ": count(" + what + ") answered " + x.count(what) + ", due is " + want.get(i)[what]);
        }
    }
  }

  public static void main(String[] args) {
    states();
    bad();
    no();
    noneAndFull();
    questions();
    System.out.println(wrong == 0 ? "what is refused changes nothing" : wrong + " calls are not as due");
    if (wrong != 0) System.exit(1);
  }
}
