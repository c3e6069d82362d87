/** Each promise of the document by its number: ordinary inputs, edges and wrong inputs, worked out by hand. */
public final class PromisesTest {
  private static final int BAD = -1, NO = -2, FULL = -3, NONE = -4;
  private static final int MIN = Integer.MIN_VALUE, MAX = Integer.MAX_VALUE;
  private static int wrong = 0;

  private static void due(int promise, String call, int got, int want) {
    if (got != want) {
      wrong++;
      System.out.println("promise " + promise + ": " + call + " answered " + got + ", due is " + want);
    }
  }

  private static SnailsYear write(SnailsYear x, String text) {
    for (char c : text.toCharArray()) x.write(c);
    return x;
  }

  private static SnailsYear yard(String text) {
    SnailsYear x = write(new SnailsYear(), text);
    due(5, "lay() of " + text + " answered NO, so that", x.lay() == NO ? NO : 0, 0);
    return x;
  }

  /** Where the SNAIL is behind 0, 1, .. nights. */
  private static void walk(String text, int... cells) {
    SnailsYear x = yard(text);
    for (int n = 0; n < cells.length; n++) due(13, text + " where(" + n + ")", x.where(n), cells[n]);
  }

  private static void counts(int promise, SnailsYear x, int... want) {
    for (int i = 0; i < want.length; i++) due(promise, "count(" + i + ")", x.count(i), want[i]);
  }

  private static void newObject() {
    SnailsYear x = new SnailsYear();
    counts(1, x, 20, 4, 0, 1, 1, 3, 1, 3, 2, 0, 0, 0, 0);
    int[] kinds = {0, 0, 0, 0, 0, 1, 2, 0, 0, 4, 0, 3, 1, 0, 1, 0, 0, 0, 0, 0};
    for (int c = 0; c < 20; c++) due(1, "cell(" + c + ", 0)", x.cell(c, 0), kinds[c]);
    due(1, "fault()", x.fault(), NONE);
    due(1, "lay()", x.lay(), NO);
    due(1, "undo()", x.undo(), NO);
    due(1, "back()", x.back(), NO);
    due(1, "begins()", x.begins(), 3);
  }

  private static void writing() {
    SnailsYear x = new SnailsYear();
    for (int letter : new int[] {MIN, -1, 0, 31, 127, MAX}) due(2, "write(" + letter + ")", x.write(letter), BAD);
    due(2, "count(12)", x.count(12), 0);
    due(2, "write(32)", x.write(32), 1);
    due(2, "write(126)", x.write(126), 2);
    for (int i = 3; i <= 200; i++) due(2, "write", x.write('s'), i);
    due(2, "write, full", x.write('s'), FULL);
    due(2, "write(31), full", x.write(31), BAD);
    due(2, "count(12)", x.count(12), 200);
    due(3, "wipe()", x.wipe(), 200);
    due(3, "wipe()", x.wipe(), 0);
    due(3, "count(12)", x.count(12), 0);
    due(3, "count(0)", x.count(0), 20);
    due(2, "write", x.write('s'), 1);
  }

  private static void fault(String text, int want) {
    SnailsYear x = write(new SnailsYear(), text);
    due(4, "fault() of " + text, x.fault(), want);
    boolean layable = want == NONE && !text.isEmpty();
    due(5, "lay() of " + text + " is NO", x.lay() == NO ? 1 : 0, layable ? 0 : 1);
    due(4, "fault() again of " + text, x.fault(), want);
  }

  private static void faults() {
    String[] well = {"", "y3,2;", "y5,5;", "y03,02;", "y3,2;y5,5;k24,4;", "k19,4;", "k00,00;", "k1,1;k1,2;", "s3;", "s0;s1;",
        "y3,5;s4;", "d0;", "d9;", "d09;", "d1;d1;d1;d1;d1;d1;d1;d1;d1;", "r0,1;", "r60,99;", "r1,1;r1,1;r1,1;r1,1;r1,1;", "h0;", "h4;",
        "y3,2;h4;", "h0;h0;h0;h0;", "h1;r1,1;d1;s1;k1,1;"};
    for (String text : well) fault(text, NONE);
    String[] atOnce = {"y", "y3", "y3,", "y3,2", "y2,2;", "y6,2;", "y3,1;", "y3,6;", "y3;", "y3,2,1;", "y003,2;", "y,2;", "y3,;", "Y3,2;",
        "k20,4;", "k19,5;", "k1;", "k1,1,1;", "s4;", "s;", "s0,1;", "d10;", "d1,1;", "r61,1;", "r0,0;", "r0,100;", "r1;", "h5;", "h;",
        "x1;", ";", "1;", ",", " s0;", "s 0;", "s-1;", "s0 ;", "yy3,2;"};
    for (String text : atOnce) fault(text, 0);
    fault("s0;y3,2;", 3);
    fault("y3,2;s0;y3,2;", 8);
    fault("k1,1;y3,2;", 5);
    fault("r1,1;y3,2;", 5);
    fault("d1;y3,2;", 3);
    fault("h1;y3,2;", 3);
    fault("y5,5;y3,2;k6,0;", 10);
    fault("y3,2;s2;", 5);
    fault("s0; ", 3);
    fault("s0;;", 3);
    fault("s0;s", 3);
    fault("k1,1;k1,2", 5);
    fault("s0;d10;x;", 3);
    fault("d1;d1;d1;d1;d1;d1;d1;d1;d1;d1;", 27);
    fault("r1,1;r1,1;r1,1;r1,1;r1,1;r1,1;", 25);
    fault("h0;h0;h0;h0;h0;", 12);
  }

  private static void laying() {
    SnailsYear x = new SnailsYear();
    x.pass(1);
    x.seen(1, 0);
    x.keep();
    write(x, "x");
    due(5, "lay() with a fault", x.lay(), NO);
    counts(5, x, 20, 4, 1, 11, 0, 3, 1, 3, 2, 1, 1, 1, 1);
    x.wipe();
    due(5, "lay() empty", x.lay(), NO);
    write(x, "y4,3;k4,1;k4,2;k2,3;s2;r1,2;h0;h1;h2;");
    counts(5, x, 20, 4, 1);
    due(5, "lay()", x.lay(), 12);
    counts(5, x, 12, 3, 0, 2, 0, 0, 1, 1, 3, 0, 0, 0, 37);
    due(5, "undo()", x.undo(), NO);
    due(5, "back()", x.back(), NO);
    x.pass(1);
    due(5, "lay() again", x.lay(), 12);
    due(5, "count(2)", x.count(2), 0);
    due(5, "the last kind of a cell", x.cell(4, 0), 2);
    due(5, "the start is grass", x.cell(2, 0), 0);
    x = yard("k2,1;s2;k1,3;s1;");
    due(5, "not the start at last", x.cell(2, 0), 1);
    due(5, "the start at last", x.cell(1, 0), 0);
    due(5, "count(3)", x.count(3), 1);
    x = yard("y3,2;y5,3;");
    due(5, "the last y", x.count(0), 15);
    due(5, "kind untold", x.cell(14, 0), 0);
    due(5, "start untold", x.count(3), 0);
    x = yard("k0,2;d1;");
    due(5, "rows and columns untold", x.count(0) * 10 + x.count(1), 204);
    due(5, "the start untold is grass, too", x.cell(0, 0), 0);
    write(x, "d7;");
    due(5, "what is written is not laid yet", x.damp(1), 1);
  }

  private static void cellsAndDamp() {
    SnailsYear x = yard("y3,5;k5,1;k6,2;k7,3;k8,4;d3;d2;");
    int[] kinds = {0, 0, 0, 0, 0, 1, 2, 3, 4, 0}, steps = {1, 1, 1, 1, 1, 3, NONE, 1, 2, 1};
    for (int c = 0; c < 10; c++) {
      due(6, "cell(" + c + ", 0)", x.cell(c, 0), kinds[c]);
      due(6, "cell(" + c + ", 1)", x.cell(c, 1), steps[c]);
    }
    x.pass(1);
    due(6, "shade on a dry night", x.cell(8, 1), 1);
    due(6, "grave on a dry night", x.cell(5, 1), 3);
    due(6, "lettuce eaten", x.cell(7, 0), 0);
    for (int c : new int[] {MIN, -1, 15, 25, MAX}) due(6, "cell(" + c + ", 0)", x.cell(c, 0), BAD);
    for (int w : new int[] {MIN, -1, 2, MAX}) due(6, "cell(0, " + w + ")", x.cell(0, w), BAD);
    for (int n = 0; n < 9; n++) due(7, "damp(" + n + ")", x.damp(n), n % 2 == 0 ? 3 : 2);
    due(7, "damp(999)", x.damp(999), 2);
    for (int n : new int[] {MIN, -1, 1000, MAX}) due(7, "damp(" + n + ")", x.damp(n), BAD);
    x = yard("d1;d2;d3;d4;d5;d6;d7;d8;d9;");
    due(7, "damp(8)", x.damp(8), 9);
    due(7, "damp(9)", x.damp(9), 1);
    due(7, "damp(999)", x.damp(999), 1);
    due(7, "damp untold", yard("s0;").damp(500), 3);
  }

  private static void passing() {
    SnailsYear x = new SnailsYear();
    for (int n : new int[] {MIN, -1, 0, 31, MAX}) due(8, "pass(" + n + ")", x.pass(n), BAD);
    due(8, "count(10)", x.count(10), 0);
    for (int n = 30; n <= 990; n += 30) due(8, "pass(30)", x.pass(30), n);
    due(8, "pass(10)", x.pass(10), NO);
    due(8, "count(2)", x.count(2), 990);
    due(8, "pass(9)", x.pass(9), 999);
    due(8, "pass(1)", x.pass(1), NO);
    due(8, "pass(31)", x.pass(31), BAD);
    due(8, "begins()", x.begins(), 0);
    x = yard("y3,2;k2,3;d9;");
    due(8, "pass(1)", x.pass(1), 1);
    counts(8, x, 6, 2, 1, 2, 0);
    due(8, "pass(1)", x.pass(1), 2);
    counts(8, x, 6, 2, 2, 4, 0);
  }

  private static void walks() {
    walk("y3,2;d1;", 0, 2, 4, 4, 4);
    walk("y3,2;d2;", 0, 4, 4);
    walk("y3,2;d0;d1;", 0, 0, 2, 2, 4);
    walk("y3,3;k4,3;d1;", 0, 1, 4, 7);              // of cells beside it the lowest
    walk("y3,3;k0,3;k2,3;s1;d1;", 1, 0, 1, 2, 5, 8); // of lettuces the lowest
    walk("y3,5;k4,3;d1;", 0, 1, 2, 3, 4, 9, 14);    // lettuce four steps away
    walk("y3,5;k14,3;d1;", 0, 5, 10, 10);           // lettuce six, then five steps away
    walk("y3,5;k9,3;d1;", 0, 5, 6, 7, 8, 9, 14);    // lettuce five, then four steps away
    walk("y5,2;k3,3;k6,2;k5,2;k4,2;k7,2;d1;", 0, 1, 3, 3, 3); // then no way
    walk("y3,2;k2,3;d9;", 0, 2, 4);                 // eats, and no farther that night
    walk("y3,2;k4,3;d2;", 0, 4, 4);                 // lettuce on the line
    walk("y3,2;k2,4;d2;", 0, 4);                    // shade takes 1 on a dry night
    walk("y3,2;k2,4;d3;", 0, 4);                    // and 2 else
    walk("y4,2;k2,4;k4,4;d3;", 0, 5, 7);            // round the shade it is 4 steps: 1 3 5 7
    walk("y3,2;k2,4;k4,4;d1;", 0, 1, 3, 5);         // shade is 2 for the way, on a dry night, too
    walk("y3,3;k4,4;s1;d1;", 1, 0, 3, 6);           // of the line the lowest: 6 by 0 3, 7 by the shade
    walk("y3,2;k1,1;k2,1;d3;", 0, 2, 4);            // a grave takes 3
    walk("y3,2;k1,1;k2,1;d2;", 0, 0, 0);
    walk("y3,2;k1,1;k2,1;d4;", 0, 4);
    walk("y4,2;k4,1;k5,1;d2;", 0, 2, 2, 2);         // what is left is lost
    walk("y3,2;k2,1;d1;", 0, 1, 3, 5);              // round the grave
    walk("y3,2;k2,2;d1;", 0, 1, 3, 5);              // round the salt
    walk("y3,2;k2,2;k3,2;d9;", 0, 0, 0);            // no way
    walk("y3,5;k5,2;k6,2;k7,2;k8,2;k9,3;d1;", 0, 1, 2, 3, 4, 9, 14); // out of reach, but on the way
    walk("y3,5;k5,2;k6,2;k7,2;k8,2;k13,2;k14,2;k9,3;d1;", 0, 0, 0);   // lettuce five away, no line
    walk("y3,2;k4,2;d1;", 0, 1, 3, 5);
    SnailsYear x = yard("y4,2;d1;");
    x.pass(1);
    x.lettuce(0);
    due(8, "pass(1)", x.pass(1), 2);
    due(8, "it goes up for lettuce", x.count(3), 0);
    for (int n : new int[] {MIN, -1, 31, MAX}) due(13, "where(" + n + ")", x.where(n), BAD);
    due(13, "where(30)", x.where(30), 6);
    counts(13, x, 8, 2, 2, 0, 0, 0, 0, 0, 0, 0, 3);
  }

  private static void doings() {
    SnailsYear x = yard("y3,3;k1,1;k2,2;k3,3;k4,4;k7,1;d2;");
    for (int c : new int[] {MIN, -1, 9, MAX}) {
      due(9, "lettuce(" + c + ")", x.lettuce(c), BAD);
      due(10, "salt(" + c + ")", x.salt(c), BAD);
      due(11, "stone(" + c + ", 5)", x.stone(c, 5), BAD);
      due(11, "stone(1, " + c + ")", x.stone(1, c), BAD);
      due(17, "far(" + c + ")", x.far(c), BAD);
    }
    for (int c = 0; c < 5; c++) due(9, "lettuce(" + c + ")", x.lettuce(c), NO);
    for (int c : new int[] {0, 1, 2, 7}) due(10, "salt(" + c + ")", x.salt(c), NO);
    for (int c : new int[] {0, 2, 3, 4, 5}) due(11, "stone(" + c + ", 8)", x.stone(c, 8), NO);
    for (int c : new int[] {0, 1, 2, 3, 4, 7}) due(11, "stone(1, " + c + ")", x.stone(1, c), NO);
    due(11, "count(10)", x.count(10), 0);
    due(9, "lettuce(5)", x.lettuce(5), 2);
    due(9, "cell(5, 0)", x.cell(5, 0), 3);
    due(10, "salt(5)", x.salt(5), 3);
    due(10, "salt(4)", x.salt(4), 4);
    due(10, "salt(8)", x.salt(8), 0);
    due(10, "salt(8)", x.salt(8), NO);
    due(10, "count(6)", x.count(6), 4);
    due(11, "stone(1, 6)", x.stone(1, 6), 2);
    due(11, "cell(1, 0)", x.cell(1, 0), 0);
    due(11, "cell(6, 0)", x.cell(6, 0), 1);
    due(12, "undo()", x.undo(), 4);
    due(12, "cell(6, 0)", x.cell(6, 0), 0);
    due(12, "cell(1, 0)", x.cell(1, 0), 1);
    for (int left = 3; left >= 0; left--) due(12, "undo()", x.undo(), left);
    due(12, "cell(5, 0)", x.cell(5, 0), 0);
    due(12, "cell(4, 0)", x.cell(4, 0), 4);
    due(12, "undo()", x.undo(), NO);
    x = yard("y3,2;k2,1;k1,2;d3;");
    x.pass(1);
    due(11, "the stone under the snail may be moved", x.stone(2, 0), 1);
    due(11, "not onto the snail", x.stone(0, 2), NO);
  }

  private static void undoing() {
    SnailsYear x = yard("y3,2;k2,3;d9;");
    x.pass(2);
    counts(12, x, 6, 2, 2, 4, 0);
    due(12, "undo()", x.undo(), 0);
    counts(12, x, 6, 2, 0, 0, 1);
    due(12, "begins()", x.begins(), 2);
    for (int i = 1; i <= 9; i++) {
      x.pass(i);
      due(12, "count(10)", x.count(10), Math.min(i, 8));
    }
    for (int left = 7; left >= 0; left--) due(12, "undo()", x.undo(), left);
    due(12, "undo()", x.undo(), NO);
    due(12, "count(2)", x.count(2), 1);
    x.pass(31);
    x.lettuce(2);
    due(12, "what was refused cannot be undone", x.undo(), NO);
  }

  private static void beginnings() {
    SnailsYear x = yard("y5,2;d0;d0;d1;d0;d0;d0;d0;d0;d0;");
    due(14, "begins()", x.begins(), 30);
    due(15, "due()", x.due(), 0);
    due(18, "layFor(30, 30, 0)", x.layFor(30, 30, 0), 0);
    due(18, "layFor(0, 29, 0)", x.layFor(0, 29, 0), NONE);
    due(13, "where(29)", x.where(29), 6);
    due(13, "where(30)", x.where(30), 8);
    x.seen(8, 30);
    due(23, "salter(1)", x.salter(1), 1);
    x.seen(6, 30);
    due(23, "salter(1), not so behind 30", x.salter(1), 0);
    due(23, "salter(0), not so behind 30", x.salter(0), 0);
    x = yard("y5,2;d0;d0;d0;d1;d0;d0;d0;d0;d0;r31,1;h0;");
    due(14, "begins() behind 31", x.begins(), NONE);
    due(15, "due()", x.due(), 1);
    due(16, "heir()", x.heir(), NONE);
    x.pass(1);
    due(14, "begins()", x.begins(), 30);
    due(15, "due()", x.due(), 0);
    due(16, "heir()", x.heir(), 0);
    x = yard("y3,2;d0;d2;r0,5;r1,7;r2,9;r1,3;");
    due(14, "begins()", x.begins(), 2);
    due(15, "due()", x.due(), 15);
    x.pass(1);
    due(15, "due() from the first night on", x.due(), 15);
    x.pass(1);
    due(14, "begins()", x.begins(), 0);
    due(15, "due()", x.due(), 15);
    x.pass(30);
    due(15, "due() when it has long begun", x.due(), 15);
    due(15, "due(), no year", yard("y3,2;k2,2;k3,2;r60,99;r0,1;").due(), 100);
    due(16, "heir(), no heirs", x.heir(), NONE);
    due(16, "heir(), of several the lowest", yard("y3,5;s2;h0;h4;").heir(), 0);
    due(16, "heir(), of several the lowest", yard("y3,5;s2;h4;h0;").heir(), 0);
    due(16, "heir(), the nearest", yard("y3,5;s2;h4;h0;h1;h3;").heir(), 2);
    due(16, "heir() beyond the columns", yard("y3,2;h4;h3;").heir(), 1);
    due(16, "heir(), no year", yard("y3,2;k2,2;k3,2;h0;").heir(), NONE);
    x = yard("y3,5;s3;d9;h0;h4;h3;");
    x.pass(3);
    due(16, "heir() when it has begun", x.heir(), 2);
  }

  private static void distances() {
    SnailsYear x = yard("y3,3;k1,1;k3,4;k4,2;k2,3;d2;");
    int[] far = {0, 3, 4, 2, NONE, 5, 3, 4, 5};
    for (int c = 0; c < 9; c++) due(17, "far(" + c + ")", x.far(c), far[c]);
    x.salt(3);
    due(17, "far(3)", x.far(3), NONE);
    due(17, "far(6)", x.far(6), 8);
    x.salt(2);
    due(17, "far(6), no way", x.far(6), NONE);
    due(17, "far(1)", x.far(1), 3);
  }

  private static void layings() {
    SnailsYear x = yard("y3,2;d9;");
    due(18, "layFor(1, 1, 0)", x.layFor(1, 1, 0), 0);
    due(18, "layFor(1, 1, 1)", x.layFor(1, 1, 1), NONE);
    due(18, "layFor(2, 2, 0)", x.layFor(2, 2, 0), 1);
    due(18, "layFor(2, 2, 1)", x.layFor(2, 2, 1), 1);
    due(18, "layFor(2, 2, 2)", x.layFor(2, 2, 2), NONE);
    due(18, "layFor(3, 30, 0)", x.layFor(3, 30, 0), 2);
    due(18, "layFor(3, 30, 1)", x.layFor(3, 30, 1), 1);
    due(18, "layFor(3, 30, 2)", x.layFor(3, 30, 2), 2);
    for (int k = 0; k < 3; k++) {
      due(18, "layFor(4, 30, " + k + ")", x.layFor(4, 30, k), NONE);
      due(18, "layFor(0, 0, " + k + ")", x.layFor(0, 0, k), NONE);
      due(18, "layFor(2, 1, " + k + ")", x.layFor(2, 1, k), NONE);
      for (int n : new int[] {MIN, -1, 31, MAX}) {
        due(18, "layFor(" + n + ", 1, " + k + ")", x.layFor(n, 1, k), BAD);
        due(18, "layFor(1, " + n + ", " + k + ")", x.layFor(1, n, k), BAD);
      }
    }
    for (int k : new int[] {MIN, -1, 3, MAX}) {
      due(18, "layFor(1, 1, " + k + ")", x.layFor(1, 1, k), BAD);
      due(18, "layFor(4, 30, " + k + ")", x.layFor(4, 30, k), BAD);
    }
    due(18, "nothing is laid", x.count(4), 0);
    x.pass(1);
    due(18, "layFor(0, 0, 0) when it has begun", x.layFor(0, 0, 0), 0);
    due(18, "layFor(1, 30, 0) when it has begun", x.layFor(1, 30, 0), NONE);
  }

  private static void deciding() {
    due(19, "decides()", yard("y3,2;k2,1;k3,1;d2;").decides(), 12);
    due(19, "decides(), none does", yard("y4,2;k1,1;d9;").decides(), 0);
    due(19, "decides(), no grave", yard("y4,2;d9;").decides(), 0);
    due(19, "decides(), sooner", yard("y3,2;k2,1;d1;").decides(), 4);
    // lettuce behind the grave, that would be near enough without: later
    due(19, "decides(), later", yard("y3,3;k1,1;k2,3;k3,2;k4,2;k5,2;k8,2;d9;").decides(), 0);
    due(19, "decides(), later", yard("y3,3;s1;k0,1;k3,3;k4,2;d1;").decides(), 1);
    SnailsYear x = yard("y3,2;k4,1;k2,1;d9;");
    x.pass(1);
    due(19, "decides() when it has begun", x.decides(), 0);
  }

  private static void latests() {
    SnailsYear x = yard("y3,2;d1;");
    due(20, "latest(0)", x.latest(0), 2);
    due(20, "latest(1)", x.latest(1), 3);
    for (int w : new int[] {MIN, -1, 2, MAX}) due(20, "latest(" + w + ")", x.latest(w), BAD);
    due(20, "nothing is salted", x.count(6), 0);
    x.pass(2);
    due(20, "latest(0) when it has begun", x.latest(0), 0);
    due(20, "latest(1) when it has begun", x.latest(1), 0);
    x = yard("y3,2;k1,2;d1;");
    due(20, "latest(0), not never", x.latest(0), 4);
    due(20, "latest(1), not never", x.latest(1), 3);
    x = yard("y3,2;k1,2;k2,2;d1;");
    due(20, "latest(0), never", x.latest(0), NONE);
    due(20, "latest(1), never", x.latest(1), NONE);
    due(20, "latest(2), never", x.latest(2), BAD);
    x = yard("y3,2;k1,4;k2,4;k3,4;k4,4;k5,4;d9;");
    due(20, "latest(0), no other grass", x.latest(0), NONE);
  }

  private static void sightings() {
    SnailsYear x = yard("y3,2;d1;");
    due(23, "salter(0), nothing seen", x.salter(0), 62);
    for (int n : new int[] {MIN, -1, 31, MAX}) due(21, "seen(0, " + n + ")", x.seen(0, n), BAD);
    for (int c : new int[] {MIN, -1, 6, MAX}) due(21, "seen(" + c + ", 0)", x.seen(c, 0), BAD);
    due(21, "seen(2, 1)", x.seen(2, 1), 1);
    due(23, "salter(1)", x.salter(1), 1);
    due(23, "salter(0)", x.salter(0), 42);
    due(21, "seen(4, 30)", x.seen(4, 30), 2);
    due(21, "seen(0, 0)", x.seen(0, 0), 3);
    due(23, "salter(0)", x.salter(0), 42);
    due(21, "seen(1, 1)", x.seen(1, 1), 4);
    due(23, "salter(1)", x.salter(1), 0);
    due(23, "salter(0)", x.salter(0), 0);
    due(22, "forget()", x.forget(), 4);
    due(22, "forget()", x.forget(), 0);
    due(21, "seen(1, 1)", x.seen(1, 1), 1);
    due(23, "salter(1)", x.salter(1), 0);
    due(23, "salter(0)", x.salter(0), 20);
    x.salt(4);
    x.lettuce(2);
    x.pass(3);
    due(23, "salter(0), whatever was done", x.salter(0), 20);
    due(23, "salter(1), whatever was done", x.salter(1), 0);
    x.undo();
    due(21, "seen stays when undone", x.count(9), 1);
    for (int i = 2; i <= 8; i++) due(21, "seen(1, 1)", x.seen(1, 1), i);
    due(21, "seen(1, 1)", x.seen(1, 1), FULL);
    due(21, "seen(6, 1)", x.seen(6, 1), BAD);
    due(21, "seen(1, 31)", x.seen(1, 31), BAD);
    for (int w : new int[] {MIN, -1, 2, MAX}) due(23, "salter(" + w + ")", x.salter(w), BAD);
    x = yard("y3,2;k1,1;k3,3;k5,4;d1;");
    due(23, "salter(0), grass alone", x.salter(0), 20);
  }

  private static void sleeping() {
    int all = (1 << 30) - 1;
    due(24, "slept(), never", yard("y3,2;d1;").slept(), 0);
    due(24, "slept(), graves", yard("y3,2;k1,1;k2,1;d2;").slept(), all);
    due(24, "slept(), no damp", yard("y3,2;d0;").slept(), all);
    due(24, "slept(), no way", yard("y3,2;k1,2;k2,2;d0;").slept(), 0);
    due(24, "slept(), then a grave", yard("y4,2;k4,1;k5,1;d2;").slept(), all - 1);
    SnailsYear x = yard("y3,2;d0;d1;");
    due(24, "slept(), till it has begun", x.slept(), 5);
    x.pass(2);
    x.salt(4);
    due(24, "slept(), whatever was done", x.slept(), 5);
  }

  private static void fraction(SnailsYear year, int n, int x, int above, int below) {
    due(25, "likely(" + n + ", " + x + ", 0)", year.likely(n, x, 0), above);
    due(25, "likely(" + n + ", " + x + ", 1)", year.likely(n, x, 1), below);
    due(26, "bet(" + n + ", " + x + ")", year.bet(n, x), 2 * above == below ? 0 : 2 * above > below ? 1 : 2);
  }

  private static void likelihoods() {
    SnailsYear x = yard("y3,2;d0;");
    fraction(x, 0, 5, 0, 1);
    fraction(x, 1, 0, 0, 1);
    fraction(x, 1, 4, 2, 5);
    fraction(x, 1, 5, 1, 2);
    fraction(x, 1, 6, 3, 5);
    fraction(x, 2, 5, 3, 4);
    fraction(x, 6, 1, 468559, 1000000);
    fraction(x, 6, 10, 1, 1);
    fraction(x, 6, 0, 0, 1);
    for (int n : new int[] {MIN, -1, 7, MAX}) {
      due(25, "likely(" + n + ", 1, 0)", x.likely(n, 1, 0), BAD);
      due(26, "bet(" + n + ", 1)", x.bet(n, 1), BAD);
    }
    for (int c : new int[] {MIN, -1, 11, MAX}) {
      due(25, "likely(1, " + c + ", 0)", x.likely(1, c, 0), BAD);
      due(26, "bet(1, " + c + ")", x.bet(1, c), BAD);
    }
    for (int part : new int[] {MIN, -1, 2, MAX}) due(25, "likely(1, 1, " + part + ")", x.likely(1, 1, part), BAD);
    due(25, "no night goes by", x.count(2), 0);
    x = yard("y3,2;k2,3;k4,3;d1;");               // two damp nights, then, are needed
    fraction(x, 1, 10, 0, 1);
    fraction(x, 2, 5, 1, 4);
    fraction(x, 3, 5, 1, 2);
    fraction(x, 3, 1, 7, 250);
    x.pass(2);
    fraction(x, 0, 0, 1, 1);
    fraction(x, 3, 3, 1, 1);
    fraction(yard("y3,2;k2,1;k3,4;k4,1;k5,1;d1;"), 1, 5, 1, 2); // 3 and 3 are 6
    fraction(yard("y3,2;k2,2;k3,4;k4,1;k5,1;d1;"), 1, 5, 1, 2); // 1 and 2 (not 1) and 3 are 6
    fraction(yard("y4,2;k2,2;k3,4;k5,4;k6,1;k7,1;d1;"), 1, 5, 0, 1);
  }

  /** The DAMP as the document tells it, told once more. */
  private static int drawn(int z, int k) {
    long q = 7919L * z + 6151L * k + 1;
    return (int) ((q * q % 65521L) / 8 % 7);
  }

  private static void years() {
    due(27, "the first draws", drawn(0, 0) * 10 + drawn(0, 1), 5);
    SnailsYear x = yard("y3,2;d0;");
    due(27, "year(0, 0)", x.year(0, 0), 2);
    due(27, "year(0, 1)", x.year(0, 1), 4);
    for (int z = 0; z <= 9999; z += 9) {
      if (z % 2700 == 0) x = yard("y3,2;d0;");     // an object is promised for 512 calls
      int steps = 0, nights = 0;
      for (; steps < 2 && nights < 30; nights++) steps += drawn(z, nights);
      due(27, "year(" + z + ", 0)", x.year(z, 0), steps < 2 ? NONE : nights);
    }
    for (int z : new int[] {MIN, -1, 10000, MAX}) due(27, "year(" + z + ", 0)", x.year(z, 0), BAD);
    for (int w : new int[] {MIN, -1, 2, MAX}) due(27, "year(1, " + w + ")", x.year(1, w), BAD);
    due(27, "no night goes by", x.count(2), 0);
    x = yard("y3,2;s1;k3,2;k0,2;");
    due(27, "year(5, 0), never", x.year(5, 0), NONE);
    due(27, "year(5, 1), never", x.year(5, 1), 1);
    x = yard("y3,2;s1;d9;");
    x.pass(3);
    due(27, "year(5, 0) when it has begun", x.year(5, 0), 0);
    due(27, "year(5, 1) when it has begun", x.year(5, 1), 5);
  }

  private static void keeping() {
    SnailsYear x = yard("y3,2;k2,3;d1;r0,1;r3,2;");
    due(29, "back()", x.back(), NO);
    x.lettuce(1);
    due(28, "keep()", x.keep(), 1);
    due(28, "keeping undoes nothing", x.count(10), 1);
    x.pass(30);
    x.seen(0, 0);
    due(28, "keep()", x.keep(), 2);
    due(28, "keep()", x.keep(), FULL);
    x.salt(0);
    due(29, "back()", x.back(), 1);
    counts(29, x, 6, 2, 30, 4, 0, 0, 0, 2, 0, 1, 0, 1);
    due(29, "undo()", x.undo(), NO);
    due(29, "due()", x.due(), 3);
    due(29, "back()", x.back(), 0);
    counts(29, x, 6, 2, 0, 0, 2, 0, 0, 2, 0, 1, 0, 0);
    due(29, "back()", x.back(), NO);
    x.pass(1);
    due(29, "a back that is refused leaves what can be undone", x.back() * 10 + x.count(10), -19);
    due(28, "keep()", x.keep(), 1);
    x.undo();
    due(28, "count(11)", x.count(11), 1);
    for (int w : new int[] {MIN, -1, 13, MAX}) due(30, "count(" + w + ")", x.count(w), BAD);
    counts(30, yard("y3,4;s2;k4,1;k5,1;k6,2;k7,3;k8,3;k9,3;r1,1;r1,1;h0;"), 12, 4, 0, 2, 3, 2, 1, 2, 1, 0, 0, 0, 51);
  }

  public static void main(String[] args) {
    newObject();
    writing();
    faults();
    laying();
    cellsAndDamp();
    passing();
    walks();
    doings();
    undoing();
    beginnings();
    distances();
    layings();
    deciding();
    latests();
    sightings();
    sleeping();
    likelihoods();
    years();
    keeping();
    System.out.println(wrong == 0 ? "all promises hold" : wrong + " answers are not as due");
    if (wrong != 0) System.exit(1);
  }
}
