import java.util.function.ToIntFunction;

/**
 * Each sentence of the document that names a boundary, with a test of its own: the last number that
 * is told and the first that is none, empty, full and one more, and what begins again from the first on.
 * What is refused, and that nothing changes then, is RefusalsTest's. No object is used for more than
 * 512 calls, as beyond that the document promises nothing.
 */
public final class EdgesTest {
  private static final int BAD = -1, NO = -2, FULL = -3, NONE = -4;
  private static final int ALL_NIGHTS = (1 << 30) - 1;
  private static int wrong = 0;
  private static String sentence = "";

  private static void due(String call, int got, int want) {
    if (got != want) {
      wrong++;
      System.out.println("\"" + sentence + "\": " + call + " answered " + got + ", due is " + want);
    }
  }

  private static SnailsYear write(SnailsYear x, String text) {
    for (char c : text.toCharArray()) x.write(c);
    return x;
  }

  private static SnailsYear yard(String text) {
    SnailsYear x = write(new SnailsYear(), text);
    due("fault() of " + text, x.fault(), NONE);
    if (x.lay() == NO) due("lay() of " + text, NO, 0);
    return x;
  }

  private static void fault(String text, int want) {
    SnailsYear x = write(new SnailsYear(), text);
    due("fault() of " + text, x.fault(), want);
    due("lay() of " + text + ", whether NO", x.lay() == NO ? NO : 0, want == NONE && !text.isEmpty() ? 0 : NO);
  }

  private static void well(String... texts) {
    for (String text : texts) fault(text, NONE);
  }

  private static void ill(String... texts) {
    for (String text : texts) {
      fault(text, 0);
      fault("y5,5;" + text, 5);
    }
  }

  /** Where the SNAIL is behind 0, 1, .. nights, as asked and as the nights go by. */
  private static void walk(String text, int... cells) {
    SnailsYear x = yard(text);
    for (int n = 0; n < cells.length; n++) due(text + " where(" + n + ")", x.where(n), cells[n]);
    for (int n = 1; n < cells.length; n++) {
      x.pass(1);
      due(text + " count(3) behind " + n, x.count(3), cells[n]);
    }
  }

  private static void of(String text, String call, ToIntFunction<SnailsYear> ask, int want) {
    due(text + " " + call, ask.applyAsInt(yard(text)), want);
  }

  private static String times(String item, int many) {
    return item.repeat(many);
  }

  // ---- what it is

  private static void letters() {
    sentence = "A TEXT is letters (200 at most)";
    String text = "y5,5;" + times("s0;", 65);
    SnailsYear x = write(new SnailsYear(), text);
    due("count(12)", x.count(12), 200);
    due("write, the 201st", x.write('s'), FULL);
    due("fault()", x.fault(), NONE);
    due("lay()", x.lay(), 25);
    due("wipe()", x.wipe(), 200);
    x = write(new SnailsYear(), text.substring(0, 199));
    due("fault() of 199", x.fault(), 197);
    due("write, the 200th", x.write(';'), 200);
    due("fault() of 200", x.fault(), NONE);
    x = write(new SnailsYear(), text + "s0;");
    due("fault(), as what is too much is not written", x.fault(), NONE);
  }

  private static void writing() {
    sentence = "A letter (32 to 126, as in ASCII) comes behind THE TEXT: how long it is. BAD; FULL";
    SnailsYear x = new SnailsYear();
    for (int letter : new int[] {31, 127, 0, -1, 128, 255, 32 + 256, 65536 + 's'}) due("write(" + letter + ")", x.write(letter), BAD);
    due("count(12)", x.count(12), 0);
    for (int letter = 32; letter <= 126; letter++) due("write(" + letter + ")", x.write(letter), letter - 31);
    due("fault()", x.fault(), 0);
    for (int i = 96; i <= 200; i++) due("write, the " + i + "th", x.write(126), i);
    due("write(126), the 201st", x.write(126), FULL);
    due("write(32), the 201st", x.write(32), FULL);
    due("write(127), BAD ahead of FULL", x.write(127), BAD);
    due("write(31), BAD ahead of FULL", x.write(31), BAD);
    due("count(12)", x.count(12), 200);

    sentence = "THE TEXT is empty: how long it was";
    due("wipe(), full", x.wipe(), 200);
    due("wipe(), empty", x.wipe(), 0);
    due("fault(), empty", x.fault(), NONE);
    due("write, there is room again", x.write(126), 1);
    due("wipe(), one", x.wipe(), 1);
    due("count(0), the yard stays", x.count(0), 20);
  }

  private static void items() {
    sentence = "ITEMS one behind the other, each a letter, then numbers (one or two figures) parted by , and a ; behind the last one";
    well("y3,2;", "y03,02;", "k1,1;", "k01,01;", "k10,1;", "s1;", "s01;", "d1;", "d01;", "r1,1;", "r10,10;", "r01,01;", "h1;", "h01;");
    ill("y003,2;", "y3,002;", "k001,1;", "k1,001;", "s001;", "s000;", "d000;", "r001,1;", "r1,001;", "h000;");
    ill("y,2;", "y3,;", "k,1;", "k1,;", "s;", "d;", "r,1;", "r1,;", "h;", "s,;", "y,;", "y;", "k;", "r;");
    ill("y3;", "k1;", "r1;", "s0,0;", "d0,0;", "h0,0;", "y3,2,1;", "k1,1,1;", "r1,1,1;");
    ill("y3;2;", "k1;1;", "y3.2;", "k1 1;", "r1:1;", "s0:", "s0,", "d0.", "h0 ", "y3,2:", "r1,1,");
    ill(" s0;", "s 0;", "s0 ;", "s+0;", "s-0;", "y 3,2;", "y3 ,2;", "y3, 2;", "y3,2 ;", "s/;", "s:;", "s0/;", "s0:;", "k1,/;", "k1,:;");
    ill("S0;", "Y3,2;", "K1,1;", "D0;", "R1,1;", "H0;", "x0;", "x1,1;", "0;", ";", ",", "~", " ", "ss0;", "yy3,2;", "s0s0;");
    for (String item : new String[] {"y3,2;", "y03,02;", "k1,1;", "k01,01;", "s0;", "s00;", "d0;", "d00;", "r1,1;", "r10,10;", "h0;", "h00;"})
      for (int cut = 1; cut < item.length(); cut++) ill(item.substring(0, cut));
    fault("", NONE);
    fault("s0;;", 3);
    fault("s0; ", 3);
    fault("s0; s0;", 3);
    fault("s0;,s0;", 3);
  }

  private static void shapes() {
    sentence = "yR,C a YARD of R (3 to 5) rows of C (2 to 5) CELLS";
    for (int r = 0; r <= 10; r++)
      for (int c = 0; c <= 10; c++) {
        String text = "y" + r + "," + c + ";";
        boolean told = r >= 3 && r <= 5 && c >= 2 && c <= 5;
        fault(text, told ? NONE : 0);
        if (told) {
          SnailsYear x = yard(text);
          due(text + " lay()", x.lay(), r * c);
          due(text + " count(0)", x.count(0), r * c);
          due(text + " count(1)", x.count(1), c);
          due(text + " cell, the last", x.cell(r * c - 1, 0), 0);
          due(text + " cell, one more", x.cell(r * c, 0), BAD);
        }
      }
    ill("y99,99;", "y3,99;", "y99,2;", "y13,2;", "y3,12;");

    sentence = "(5, 4 without; ..)";
    of("s0;", "count(0)", x -> x.count(0), 20);
    of("s0;", "count(1)", x -> x.count(1), 4);

    sentence = "no other ITEM ahead of it but y";
    for (String item : new String[] {"k0,0;", "s0;", "d0;", "r0,1;", "h0;"}) {
      fault(item + "y3,2;", item.length());
      fault("y3,2;" + item + "y3,2;", 5 + item.length());
      fault("y3,2;" + item, NONE);
    }
    well("y3,2;y3,2;", "y3,2;y5,5;k24,0;", times("y3,2;", 40));
    fault("y5,5;y3,2;k6,0;", 10);
    of("y5,5;y3,2;", "count(0)", x -> x.count(0), 6);
  }

  private static void rows() {
    sentence = "CELL 0 is the first of the first row, then along it, row by row";
    for (int c = 2; c <= 5; c++)
      for (int r = 3; r <= 5; r++) {
        SnailsYear x = yard("y" + r + "," + c + ";");
        for (int cell = 0; cell < r * c; cell++) due("y" + r + "," + c + "; far(" + cell + ")", x.far(cell), cell / c + cell % c);
      }
    SnailsYear x = yard("y3,4;s3;");
    due("far(4), no way round the row's end", x.far(4), 4);
    due("far(8)", x.far(8), 5);
    x = yard("y3,4;k2,2;k7,2;s3;");
    due("far(4), no way round the row's end", x.far(4), NONE);
    x = yard("y3,3;k1,2;k3,2;");
    due("far(4), no way across a corner", x.far(4), NONE);
    due("far(8), no way round the yard", x.far(8), NONE);

    sentence = "the last row is THE LINE";
    for (int r = 3; r <= 5; r++)
      for (int c = 2; c <= 5; c++)
        for (int s = 0; s < c; s++) {
          x = yard("y" + r + "," + c + ";s" + s + ";d1;");
          due("begins() of " + r + " rows", x.begins(), r - 1);
          x.pass(r - 2);
          due("begins() in the last row but one", x.begins(), 1);
          due("count(3) in the last row but one", x.count(3), (r - 2) * c + s);
          x.pass(1);
          due("begins() in the last row", x.begins(), 0);
          due("count(3) in the last row", x.count(3), (r - 1) * c + s);
        }
  }

  private static void kinds() {
    sentence = "kX,K CELL X is of KIND K (0 .. 4)";
    for (int r = 3; r <= 5; r++)
      for (int c = 2; c <= 5; c++) {
        String y = "y" + r + "," + c + ";";
        fault(y + "k" + (r * c - 1) + ",0;", NONE);
        fault(y + "k" + r * c + ",0;", 5);
      }
    well("k19,0;", "k0,0;", "k0,4;");
    ill("k25,0;", "k99,0;", "k0,5;", "k0,9;", "k0,10;", "k0,99;");
    fault("k20,0;", 0);
    for (int kind = 0; kind <= 4; kind++) {
      SnailsYear x = yard("y5,5;k24," + kind + ";k1," + kind + ";");
      due("cell(24, 0)", x.cell(24, 0), kind);
      due("cell(1, 0)", x.cell(1, 0), kind);
      due("cell(2, 0), without", x.cell(2, 0), 0);
    }

    sentence = "the last one of each";
    SnailsYear x = yard("k5,1;k6,2;k5,4;k5,3;k6,0;");
    due("cell(5, 0)", x.cell(5, 0), 3);
    due("cell(6, 0)", x.cell(6, 0), 0);
  }

  private static void starts() {
    sentence = "sC the SNAIL is let off in column C (such as there is)";
    for (int c = 2; c <= 5; c++) {
      String y = "y3," + c + ";";
      for (int s = 0; s <= 6; s++) fault(y + "s" + s + ";", s < c ? NONE : 5);
      fault(y + "s99;", 5);
      due("count(3)", yard(y + "s" + (c - 1) + ";").count(3), c - 1);
    }
    fault("s3;", NONE);
    fault("s4;", 0);

    sentence = "of the first row (0 without; the last one)";
    of("d1;", "count(3)", x -> x.count(3), 0);
    of("s3;s1;s2;", "count(3)", x -> x.count(3), 2);
    of("s3;s0;", "count(3)", x -> x.count(3), 0);

    sentence = "that CELL is GRASS, whatever is told";
    for (int kind = 1; kind <= 4; kind++) {
      of("k2," + kind + ";s2;", "cell(2, 0)", x -> x.cell(2, 0), 0);
      of("s2;k2," + kind + ";", "cell(2, 0)", x -> x.cell(2, 0), 0);
      of("k0," + kind + ";", "cell(0, 0)", x -> x.cell(0, 0), 0);
      of("k2," + kind + ";s2;s1;", "cell(2, 0), no start at last", x -> x.cell(2, 0), kind);
      of("s1;k2," + kind + ";s2;", "cell(2, 0), the start at last", x -> x.cell(2, 0), 0);
    }
    of("k0,1;k1,1;", "count(5)", x -> x.count(5), 1);
  }

  private static void damps() {
    sentence = "dD the DAMP of a night is D (0 to 9)";
    well("d0;", "d9;", "d09;");
    ill("d10;", "d11;", "d99;");

    sentence = "9 at most";
    well(times("d1;", 8), times("d1;", 9));
    fault(times("d1;", 10), 27);
    fault(times("d1;", 9) + "s0;d1;", 30);

    sentence = "night 0, 1, ..; then again from the first on";
    for (int many = 1; many <= 9; many++) {
      StringBuilder text = new StringBuilder();
      for (int i = 0; i < many; i++) text.append("d").append(9 - i).append(";");
      SnailsYear x = yard(text.toString());
      for (int n = 0; n <= 28; n++) due(text + " damp(" + n + ")", x.damp(n), 9 - n % many);
      due(text + " damp(998)", x.damp(998), 9 - 998 % many);
      due(text + " damp(999)", x.damp(999), 9 - 999 % many);
    }
    walk("y5,2;d1;d2;d0;", 0, 2, 6, 6, 8, 8);

    sentence = "(3 always without)";
    SnailsYear x = yard("y5,2;");
    for (int n = 0; n <= 20; n++) due("damp(" + n + ")", x.damp(n), 3);
    due("damp(999)", x.damp(999), 3);
    walk("y5,2;", 0, 6, 8);
  }

  private static void rents() {
    sentence = "rN,A a RENT of A (1 to 99) is due on night N (0 to 60)";
    well("r0,1;", "r0,99;", "r60,1;", "r60,99;", "r00,01;");
    ill("r0,0;", "r0,00;", "r0,100;", "r61,1;", "r99,1;", "r60,0;", "r100,1;");
    of("y3,2;k2,2;k3,2;r60,99;r0,1;", "due()", x -> x.due(), 100);

    sentence = "5 at most, 0, 1, ..";
    well(times("r1,1;", 4), times("r1,1;", 5));
    fault(times("r1,1;", 6), 25);
    of("s0;", "count(7)", x -> x.count(7), 0);
    of(times("r1,1;", 5), "count(7)", x -> x.count(7), 5);
    of("y3,2;k2,2;k3,2;" + times("r1,99;", 5), "due()", x -> x.due(), 495);
  }

  private static void heirs() {
    sentence = "hC an HEIR stands at column C (0 to 4) of THE LINE";
    well("h0;", "h4;", "y3,2;h4;");
    ill("h5;", "h9;", "h10;", "h99;");

    sentence = "4 at most, 0, 1, ..";
    well(times("h1;", 3), times("h1;", 4));
    fault(times("h1;", 5), 12);
    of("s0;", "count(8)", x -> x.count(8), 0);
    of(times("h1;", 4), "count(8)", x -> x.count(8), 4);
    of("h4;h4;h4;h0;", "heir(), the last of four", x -> x.heir(), 3);
  }

  // ---- terms: texts

  private static void firstFault() {
    sentence = "FAULT: the place of the first letter of the first ITEM that is not so";
    fault("x", 0);
    fault("s0;k99,9;x;", 3);
    fault("s0;d9;h0;k1,1;s9;d10;", 14);
    fault(times("s0;", 65) + "s00;s", 199);
    fault(times("s0;", 66) + "s0", 198);
    fault(times("s0;", 66), NONE);

    // nothing of what was wiped is read behind the last letter
    for (String item : new String[] {"y3,2;", "k12,1;", "s0;", "d9;", "r10,10;", "h4;"})
      for (int cut = 1; cut < item.length(); cut++) {
        SnailsYear x = write(new SnailsYear(), item);
        x.wipe();
        due("fault(), empty, " + item + " wiped", x.fault(), NONE);
        write(x, item.substring(0, cut));
        due("fault() of " + item.substring(0, cut) + ", " + item + " wiped", x.fault(), 0);
        due("lay()", x.lay(), NO);
      }

    sentence = "LAID is a TEXT without FAULT, not empty (NO else ..)";
    SnailsYear x = new SnailsYear();
    due("lay(), empty", x.lay(), NO);
    x.write('s');
    due("lay(), with a fault", x.lay(), NO);
    write(x, "0;");
    due("lay()", x.lay(), 20);
    due("count(4), laid anew", x.count(4), 0);
    x.wipe();
    due("lay(), empty again", x.lay(), NO);
    due("count(0)", x.count(0), 20);

    sentence = "at first y5,4;k5,1;k6,2;k9,4;k11,3;k12,1;k14,1;s1;d4;d0;d2;r3,10;r5,4;r9,7;h0;h3;";
    x = new SnailsYear();
    SnailsYear told = yard("y5,4;k5,1;k6,2;k9,4;k11,3;k12,1;k14,1;s1;d4;d0;d2;r3,10;r5,4;r9,7;h0;h3;");
    due("count(12), nothing is written", x.count(12), 0);
    for (int what = 0; what <= 11; what++) due("count(" + what + ")", x.count(what), told.count(what));
    for (int c = 0; c < 20; c++) due("cell(" + c + ", 0)", x.cell(c, 0), told.cell(c, 0));
    for (int n = 0; n < 9; n++) due("damp(" + n + ")", x.damp(n), told.damp(n));
    due("due(), with no year", saltedAll(x).due(), 21);
    due("due(), with no year", saltedAll(told).due(), 21);
  }

  /** All of THE LINE SALTED, so that there is no way to it. */
  private static SnailsYear saltedAll(SnailsYear x) {
    for (int c = 16; c < 20; c++) x.salt(c);
    x.salt(11);
    return x;
  }

  // ---- terms: the snail

  private static void steps() {
    sentence = "To come into a CELL takes STEPS: GRASS 1, a GRAVE 3, LETTUCE 1, SHADE 2 (1, if the DAMP is less than 3); into SALT it never comes";
    for (int damp = 0; damp <= 9; damp++) {
      SnailsYear x = yard("y3,5;k1,1;k2,2;k3,3;k4,4;d" + damp + ";");
      int[] want = {1, 3, NONE, 1, damp < 3 ? 1 : 2};
      for (int kind = 0; kind <= 4; kind++) due("d" + damp + "; cell(" + kind + ", 1)", x.cell(kind, 1), want[kind]);
    }
    // one way alone, over the CELL of that KIND to THE LINE
    walk("y3,2;k1,2;d1;", 0, 2, 4);
    walk("y3,2;k1,2;k2,1;d3;", 0, 2, 4);
    walk("y3,2;k1,2;k2,1;d4;", 0, 4);
    walk("y3,2;k1,2;k2,1;d2;", 0, 0, 0);
    walk("y3,2;k1,2;k2,3;d1;", 0, 2, 4);
    walk("y3,2;k1,2;k2,4;d1;", 0, 2, 4);
    walk("y3,2;k1,2;k2,4;d2;", 0, 4);
    walk("y4,2;k1,2;k3,2;k5,2;k2,4;k4,4;d3;", 0, 2, 6);
    walk("y4,2;k1,2;k3,2;k5,2;k2,4;k4,4;d2;", 0, 4, 6);
    walk("y3,2;k1,2;k2,2;d9;", 0, 0, 0);

    sentence = "On a night the SNAIL has as many STEPS as the DAMP";
    // one way alone, of twelve CELLS
    String way = "y5,5;k5,2;k6,2;k7,2;k8,2;k16,2;k17,2;k18,2;k19,2;";
    int[] cells = {0, 1, 2, 3, 4, 9, 14, 13, 12, 11, 10, 15, 20};
    for (int damp = 0; damp <= 9; damp++)
      walk(way + "d" + damp + ";", 0, cells[damp], cells[Math.min(12, 2 * damp)], cells[Math.min(12, 3 * damp)]);

    sentence = "as long as the STEPS do for the next one; what is left is lost";
    walk("y4,2;k1,2;k4,1;k5,1;d3;", 0, 2, 4, 6);
    walk("y4,2;k1,2;k4,1;k5,1;d4;", 0, 4, 6);
    walk("y4,2;k1,2;k4,1;k5,1;d2;", 0, 2, 2, 2);
    walk("y4,2;k1,2;k4,1;k5,1;d1;d2;", 0, 2, 2, 2);
    walk("y4,2;k1,2;k3,2;k5,2;k2,1;k4,1;d5;", 0, 2, 6);
    walk("y4,2;k1,2;k3,2;k5,2;k2,1;k4,1;d6;", 0, 4, 6);
  }

  private static void sides() {
    sentence = "It goes CELL by CELL (up, down, right, left)";
    walk("y3,3;d1;s1;k4,3;", 1, 4, 7);
    walk("y3,3;d1;s1;k2,3;", 1, 2, 5, 8);
    walk("y3,3;d1;s1;k0,3;", 1, 0, 3, 6);
    SnailsYear x = yard("y4,2;d1;");
    x.pass(1);
    x.lettuce(0);
    x.pass(1);
    due("count(3), up", x.count(3), 0);
    // CELLS 2 and 3 follow each other, but are not beside each other
    walk("y4,3;s2;k3,3;k4,2;k1,2;d1;", 2, 5, 8, 7, 6, 3, 6, 9);
    walk("y3,3;s2;k3,3;k1,2;k5,2;d9;", 2, 2);
  }

  private static void sleeps() {
    sentence = "If they do not do for the first one, it SLEEPS that night";
    of("y3,2;k1,1;k2,1;d2;", "slept()", x -> x.slept(), ALL_NIGHTS);
    of("y3,2;k1,1;k2,1;d3;", "slept()", x -> x.slept(), 0);
    of("y3,2;k1,1;k2,1;d2;d3;", "slept()", x -> x.slept(), 1);
    of("y3,2;k1,1;k2,1;d0;d1;d2;d3;", "slept(), and again on the grave", x -> x.slept(), 7 + 16);
    of("y3,2;k1,4;k2,4;d1;", "slept()", x -> x.slept(), 0);
    of("y3,2;k1,4;k2,4;d0;d1;", "slept()", x -> x.slept(), 5);
    of("y4,2;k1,2;k4,1;k5,1;d2;", "slept(), not the night when it went", x -> x.slept(), ALL_NIGHTS - 1);
    of("y3,2;d0;d0;d2;", "slept(), not once it has begun", x -> x.slept(), 3);

    sentence = "If there is no way to either it stays (and does not SLEEP)";
    of("y3,2;k1,2;k2,2;d0;", "slept()", x -> x.slept(), 0);
    of("y3,2;k1,2;k2,2;d9;", "slept()", x -> x.slept(), 0);
    of("y3,2;k1,2;k2,2;d9;", "where(30)", x -> x.where(30), 0);
    of("y3,2;k2,2;k3,2;d0;", "slept(), room but no way", x -> x.slept(), 0);
    of("y3,2;k2,2;k3,2;d9;", "where(30), room but no way", x -> x.where(30), 0);
    of("y3,2;k2,2;k3,2;k1,3;d0;d0;d1;d0;", "slept(), a way to lettuce, then none", x -> x.slept(), 3);
  }

  private static void lettuces() {
    sentence = "it goes for the LETTUCE that is nearest .., if that is no more than 4 STEPS away";
    walk("y3,5;k4,3;d1;", 0, 1, 2, 3, 4, 9, 14);
    // five STEPS away by each way, and farther the farther it goes down
    walk("y3,5;k2,1;k6,2;k3,3;k7,2;k8,2;d1;", 0, 5, 10, 10);
    walk("y3,5;k2,4;k6,2;k3,3;k7,2;k8,2;d1;", 0, 1, 2, 3, 4, 9, 14);

    sentence = "by STEPS of all CELLS on the way, SHADE being 2";
    walk("y3,5;k1,4;k2,4;k3,3;k5,2;k6,2;k7,2;k8,2;k9,2;d1;", 0, 0, 0);
    walk("y3,5;k1,4;k2,3;k3,2;k5,2;k6,2;k7,2;d1;", 0, 1, 2, 2);
    walk("y3,5;k1,4;k2,4;k3,3;k6,2;k7,2;k8,2;d2;", 0, 10, 10);
    walk("y3,5;k1,4;k2,4;k3,3;k6,2;k7,2;k8,2;d9;", 0, 10);
    walk("y3,5;k1,1;k2,3;d1;k6,2;k7,2;", 0, 0, 0);
    walk("y3,5;k1,1;k2,3;d3;k6,2;k7,2;", 0, 1, 2);
    walk("y3,5;s2;k1,4;k0,3;k4,3;d1;", 2, 3, 4, 9, 14);
    walk("y3,5;s2;k1,0;k0,3;k4,3;d1;", 2, 1, 0, 1, 2, 3, 4);

    sentence = "of several the lowest";
    walk("y3,3;k0,3;k2,3;s1;d1;", 1, 0, 1, 2, 5, 8);
    walk("y3,3;k2,3;k4,3;s1;d1;", 1, 2, 1, 4, 7);

    sentence = "Ahead of each CELL it goes for ..";
    walk("y3,5;k9,3;d9;", 0, 9, 14);
    walk("y4,5;k12,3;d2;", 0, 2, 12, 17);
    walk("y5,5;k9,3;k4,2;k14,2;d9;", 0, 9, 23);

    sentence = "Where it comes to LETTUCE it eats that (GRASS then), and goes no farther that night";
    SnailsYear x = yard("y4,2;k1,2;k2,3;k4,3;d9;");
    for (int left = 1; left >= 0; left--) {
      x.pass(1);
      due("count(3)", x.count(3), left == 1 ? 2 : 4);
      due("cell under it", x.cell(x.count(3), 0), 0);
      due("count(4)", x.count(4), left);
    }
    x.pass(1);
    due("count(3)", x.count(3), 6);
    of("y4,2;k1,2;k2,3;k4,3;d9;", "begins()", y -> y.begins(), 3);

    sentence = "When it comes to THE LINE the YEAR BEGINS, that night; it goes no farther ever";
    x = yard("y3,3;d9;");
    due("begins()", x.begins(), 1);
    x.pass(1);
    due("count(3)", x.count(3), 6);
    x.lettuce(7);
    x.lettuce(3);
    for (int n = 0; n <= 30; n += 6) due("where(" + n + ")", x.where(n), 6);
    x.pass(30);
    due("count(3)", x.count(3), 6);
    due("count(4)", x.count(4), 2);
    of("y3,2;k4,3;d9;", "lettuce on THE LINE: begins()", y -> y.begins(), 1);
    x = yard("y3,2;k4,3;d9;");
    x.pass(1);
    due("count(4), eaten on THE LINE", x.count(4), 0);
    // on the way to LETTUCE 8 it comes to THE LINE
    walk("y3,3;k1,2;k4,2;k5,2;k8,3;d9;", 0, 6, 6);
  }

  private static void goals() {
    sentence = "else for the CELL of THE LINE that is nearest in the same way";
    walk("y3,3;k7,1;s1;d1;", 1, 0, 3, 6);
    walk("y3,3;k7,4;s1;d1;", 1, 0, 3, 6);
    walk("y3,3;k0,2;k3,2;k7,4;s1;d1;", 1, 4, 7);
    walk("y3,3;k0,2;k3,2;k7,1;s1;d1;", 1, 2, 5, 8);
    walk("y3,3;k6,2;k7,2;d1;", 0, 1, 2, 5, 8);
    walk("y3,3;k6,2;k7,2;k8,2;d1;", 0, 0, 0);

    sentence = "Of CELLS beside it, by which it comes there with fewest STEPS, the next is the lowest";
    walk("y3,3;k4,3;d1;", 0, 1, 4, 7);
    walk("y3,3;k4,3;k1,4;d1;", 0, 3, 4, 7);
    walk("y3,3;k4,3;k1,4;k3,4;d1;", 0, 1, 4, 7);
    SnailsYear x = yard("y4,3;s1;d1;");
    x.pass(2);
    x.lettuce(0);
    x.pass(1);
    due("count(3), up is lower than left", x.count(3), 4);
    x = yard("y4,3;s1;d1;");
    x.pass(2);
    x.lettuce(2);
    x.salt(4);
    x.pass(1);
    due("count(3), round the salt", x.count(3), 8);
  }

  // ---- terms: what is done

  private static void doings() {
    sentence = "LETTUCE is laid (on GRASS, not where the SNAIL is)";
    SnailsYear x = yard("y3,5;k5,1;k6,2;k7,3;k8,4;");
    due("lettuce(14), the last cell", x.lettuce(14), 2);
    due("lettuce(1), beside the snail", x.lettuce(1), 3);
    for (int c : new int[] {0, 1, 5, 6, 7, 8, 14}) due("lettuce(" + c + ")", x.lettuce(c), NO);
    due("lettuce(15)", x.lettuce(15), BAD);
    due("lettuce(-1)", x.lettuce(-1), BAD);
    due("count(4)", x.count(4), 3);

    sentence = "a CELL is SALTED (not where the SNAIL is, nor a GRAVE)";
    x = yard("y3,5;k5,1;k6,2;k7,3;k8,4;");
    for (int c : new int[] {0, 5, 6}) due("salt(" + c + ")", x.salt(c), NO);
    due("salt(15)", x.salt(15), BAD);
    due("salt(-1)", x.salt(-1), BAD);
    due("salt(7)", x.salt(7), 3);
    due("salt(8)", x.salt(8), 4);
    due("salt(14)", x.salt(14), 0);
    due("salt(1)", x.salt(1), 0);
    for (int c : new int[] {7, 8, 14, 1}) due("salt(" + c + ") again", x.salt(c), NO);
    due("count(6)", x.count(6), 5);

    sentence = "a GRAVE is moved to a CELL of GRASS (not where the SNAIL is)";
    x = yard("y3,5;k5,1;k6,2;k7,3;k8,4;k9,1;");
    for (int c : new int[] {0, 1, 6, 7, 8, 14}) due("stone(" + c + ", 2)", x.stone(c, 2), NO);
    for (int c : new int[] {0, 5, 6, 7, 8, 9}) due("stone(5, " + c + ")", x.stone(5, c), NO);
    for (int c : new int[] {-1, 15}) {
      due("stone(" + c + ", 2)", x.stone(c, 2), BAD);
      due("stone(5, " + c + ")", x.stone(5, c), BAD);
    }
    due("stone(5, 14)", x.stone(5, 14), 2);
    due("cell(5, 0)", x.cell(5, 0), 0);
    due("cell(14, 0)", x.cell(14, 0), 1);
    due("stone(5, 13), no grave any more", x.stone(5, 13), NO);
    due("stone(14, 5), and back", x.stone(14, 5), 2);
    due("count(5)", x.count(5), 2);
    x = yard("y3,2;k1,2;k2,1;d3;");
    x.pass(1);
    due("salt(2), snail and grave", x.salt(2), NO);
    due("lettuce(2), snail and grave", x.lettuce(2), NO);
    due("stone(2, 0), away from under the snail", x.stone(2, 0), 1);
    due("lettuce(2), grass, but the snail is there", x.lettuce(2), NO);
    due("salt(2), grass, but the snail is there", x.salt(2), NO);
    due("stone(0, 2), onto the snail", x.stone(0, 2), NO);
  }

  private static void undone() {
    sentence = "UNDONE is the latest of these (the last 8 can be)";
    for (int deeds = 0; deeds <= 12; deeds++) {
      SnailsYear x = yard("y5,5;d0;");
      for (int i = 1; i <= deeds; i++) {
        x.lettuce(i);
        due("count(10) of " + deeds, x.count(10), Math.min(i, 8));
      }
      int left = Math.min(deeds, 8);
      for (int i = 1; i <= Math.min(deeds, 8); i++) {
        due("undo()", x.undo(), left - i);
        due("count(4)", x.count(4), deeds - i);
        due("cell, undone", x.cell(deeds - i + 1, 0), 0);
      }
      due("undo(), one more", x.undo(), NO);
      due("count(4)", x.count(4), Math.max(0, deeds - 8));
      due("count(10)", x.count(10), 0);
    }
    SnailsYear x = yard("y4,2;k3,1;k4,3;k5,4;d1;");
    x.pass(30);
    due("pass(30) is one: undo()", x.undo(), 0);
    due("count(2)", x.count(2), 0);
    due("count(3)", x.count(3), 0);
    due("count(4)", x.count(4), 1);
    due("begins(), undone", x.begins(), 3);
    x.salt(4);
    x.salt(5);
    x.stone(3, 7);
    due("undo() of a stone", x.undo(), 2);
    due("cell(3, 0)", x.cell(3, 0), 1);
    due("cell(7, 0)", x.cell(7, 0), 0);
    due("undo() of a salt", x.undo(), 1);
    due("cell(5, 0), shade again", x.cell(5, 0), 4);
    due("undo() of a salt", x.undo(), 0);
    due("cell(4, 0), lettuce again", x.cell(4, 0), 3);
    // questions asked between do not come into what is UNDONE
    for (int deed = 0; deed < 4; deed++) {
      x.where(30);
      int got = deed == 0 ? x.pass(2) : deed == 1 ? x.lettuce(1) : deed == 2 ? x.salt(1) : x.stone(3, 1);
      due("a deed is done", got < 0 ? got : 0, 0);
      x.year(77, 0);
      due("undo()", x.undo(), 0);
      due("count(2)", x.count(2), 0);
      due("count(3)", x.count(3), 0);
      for (int c = 0; c < 8; c++) due("cell(" + c + ", 0)", x.cell(c, 0), new int[] {0, 0, 0, 1, 3, 4, 0, 0}[c]);
    }
    // what is done once more behind an undo is the latest then
    x.lettuce(1);
    x.undo();
    x.salt(1);
    due("undo()", x.undo(), 0);
    due("cell(1, 0)", x.cell(1, 0), 0);
  }

  // ---- terms: from now on

  private static void fromNowOn() {
    sentence = "WHERE: in which CELL it is behind n (0 to 30) nights";
    SnailsYear x = yard("y5,2;d0;d0;d1;d0;d0;d0;d0;d0;d0;");
    due("where(-1)", x.where(-1), BAD);
    due("where(0)", x.where(0), 0);
    due("where(2)", x.where(2), 0);
    due("where(3)", x.where(3), 2);
    due("where(29)", x.where(29), 6);
    due("where(30)", x.where(30), 8);
    due("where(31)", x.where(31), BAD);
    x.pass(3);
    due("where(0), from now on", x.where(0), 2);
    due("where(27), from now on", x.where(27), 8);

    sentence = "BEGINS: behind how many nights (0: it has begun; 30 at most); none";
    String at30 = "y5,2;d0;d0;d1;d0;d0;d0;d0;d0;d0;", at31 = "y5,2;d0;d0;d0;d1;d0;d0;d0;d0;d0;";
    of(at30, "begins()", y -> y.begins(), 30);
    of(at31, "begins()", y -> y.begins(), NONE);
    of("y3,2;d2;", "begins()", y -> y.begins(), 1);
    x = yard(at31);
    x.pass(1);
    due("begins(), 30 from now on", x.begins(), 30);
    x.pass(29);
    due("begins(), one from now on", x.begins(), 1);
    x.pass(1);
    due("begins(), it has begun", x.begins(), 0);
    x.pass(30);
    due("begins(), it has long begun", x.begins(), 0);
    x = yard("y5,2;d0;");
    for (int i = 0; i < 33; i++) x.pass(30);
    x.pass(9);
    due("begins() on night 999", x.begins(), NONE);
    due("where(30) on night 999", x.where(30), 0);

    sentence = "DUE: the RENTS due from the first night on to the one on which it BEGINS, that one, too";
    of("y3,2;d1;r0,1;r1,10;r2,50;", "due()", y -> y.due(), 11);
    of("y3,2;d2;r0,1;r1,10;r2,50;", "due()", y -> y.due(), 1);
    of("y3,2;d2;r1,10;r2,50;", "due()", y -> y.due(), 0);
    of("y3,2;d2;", "due(), no rents", y -> y.due(), 0);
    x = yard("y3,2;d1;r0,1;r1,10;r2,50;");
    x.pass(1);
    due("due(), a night gone by", x.due(), 11);
    x.pass(1);
    due("due(), begun", x.due(), 11);
    x.pass(30);
    due("due(), long begun", x.due(), 11);
    of(at30 + "r29,1;r30,10;", "due(), behind 30", y -> y.due(), 1);

    sentence = "(all, if BEGINS is none)";
    of(at31 + "r29,1;r30,10;r31,20;r60,50;", "due(), behind 31", y -> y.due(), 81);
    of("y3,2;k2,2;k3,2;r0,1;r60,2;", "due(), never", y -> y.due(), 3);
  }

  private static void whoIsHeir() {
    sentence = "HEIR: who stands at the column nearest to that where the YEAR BEGINS, of several the lowest; none";
    for (int c = 0; c <= 4; c++) {
      of("y3,5;s" + c + ";h0;h1;h3;h4;", "heir()", x -> x.heir(), new int[] {0, 1, 1, 2, 3}[c]);
      of("y3,5;s" + c + ";h4;h0;", "heir()", x -> x.heir(), new int[] {1, 1, 0, 0, 0}[c]);
      of("y3,5;s" + c + ";h2;h2;", "heir()", x -> x.heir(), 0);
    }
    of("y3,2;s1;h4;h3;", "heir(), beyond the columns", x -> x.heir(), 1);
    of("y3,2;s0;h4;", "heir(), one", x -> x.heir(), 0);
    of("y3,2;", "heir(), no heirs", x -> x.heir(), NONE);
    of("y3,2;k2,2;k3,2;h0;", "heir(), no year", x -> x.heir(), NONE);
    of("y5,2;d0;d0;d1;d0;d0;d0;d0;d0;d0;h0;", "heir(), behind 30", x -> x.heir(), 0);
    of("y5,2;d0;d0;d0;d1;d0;d0;d0;d0;d0;h0;", "heir(), behind 31", x -> x.heir(), NONE);
    // the column where it begins, not where it is let off
    of("y3,3;s0;k3,2;k4,2;h0;h2;", "heir()", x -> x.heir(), 1);
  }

  private static void howFar() {
    sentence = "How many STEPS it is from the SNAIL to a CELL, as in 2. NONE: there is no way; BAD";
    SnailsYear x = yard("y3,3;k1,1;k3,4;k4,2;k2,3;d2;");
    int[] far = {0, 3, 4, 2, NONE, 5, 3, 4, 5};
    for (int c = 0; c < 9; c++) due("far(" + c + ")", x.far(c), far[c]);
    due("far(-1)", x.far(-1), BAD);
    due("far(9)", x.far(9), BAD);
    x = yard("y5,5;k5,2;k6,2;k7,2;k8,2;k16,2;k17,2;k18,2;k19,2;k1,1;k2,1;k3,1;k4,1;k9,1;k14,1;k13,1;k12,1;k11,1;k10,1;k15,1;k20,1;k21,1;k22,1;k23,1;k24,1;");
    due("far(24), the longest way", x.far(24), 48);
    due("far(20)", x.far(20), 36);
    due("far(5)", x.far(5), NONE);
    due("far(0)", x.far(0), 0);
  }

  // ---- terms: what would be

  private static void laying() {
    sentence = "LAY for a, b (0 to 30)";
    SnailsYear x = yard("y5,2;d0;d0;d1;d0;d0;d0;d0;d0;d0;");
    due("layFor(30, 30, 0)", x.layFor(30, 30, 0), 0);
    due("layFor(0, 30, 0)", x.layFor(0, 30, 0), 0);
    due("layFor(0, 29, 0)", x.layFor(0, 29, 0), NONE);
    due("layFor(0, 0, 0)", x.layFor(0, 0, 0), NONE);
    for (int n : new int[] {-1, 31}) {
      due("layFor(" + n + ", 30, 0)", x.layFor(n, 30, 0), BAD);
      due("layFor(0, " + n + ", 0)", x.layFor(0, n, 0), BAD);
    }

    sentence = "the YEAR BEGINS behind a nights or more, b or fewer";
    x = yard("y3,2;d9;");
    int[] many = {NONE, 0, 1, 2, NONE};
    for (int a = 0; a <= 4; a++) due("layFor(" + a + ", " + a + ", 0)", x.layFor(a, a, 0), many[a]);
    due("layFor(2, 30, 0)", x.layFor(2, 30, 0), 1);
    due("layFor(3, 30, 0)", x.layFor(3, 30, 0), 2);
    due("layFor(4, 30, 0)", x.layFor(4, 30, 0), NONE);
    due("layFor(0, 1, 0)", x.layFor(0, 1, 0), 0);
    due("layFor(2, 1, 0), a above b", x.layFor(2, 1, 0), NONE);
    due("layFor(1, 0, 0), a above b", x.layFor(1, 0, 0), NONE);

    sentence = "how many (k = 0), the k-th (1, 2; NONE: there are not so many). NONE; BAD";
    int[][] sets = {{0, NONE, NONE}, {1, 1, NONE}, {2, 1, 2}, {NONE, NONE, NONE}};
    for (int a = 1; a <= 4; a++) {
      for (int k = 0; k <= 2; k++) due("layFor(" + a + ", 30, " + k + ")", x.layFor(a, 30, k), sets[a - 1][k]);
      due("layFor(" + a + ", 30, -1)", x.layFor(a, 30, -1), BAD);
      due("layFor(" + a + ", 30, 3)", x.layFor(a, 30, 3), BAD);
    }
    x.pass(1);
    due("layFor(0, 0, 0), begun", x.layFor(0, 0, 0), 0);
    due("layFor(0, 0, 1), begun", x.layFor(0, 0, 1), NONE);
    due("layFor(1, 30, 0), begun", x.layFor(1, 30, 0), NONE);

    sentence = "of several sets the first (by the lower CELL, then the higher)";
    // 1 is no GRASS, so that 2 is the first by which it takes longer, and 4 the last
    x = yard("y3,2;k1,4;d9;");
    due("layFor(2, 2, 1)", x.layFor(2, 2, 1), 2);
    x = yard("y3,2;k1,4;k2,4;d9;");
    due("layFor(2, 2, 0)", x.layFor(2, 2, 0), 1);
    due("layFor(2, 2, 1)", x.layFor(2, 2, 1), 3);
    // LETTUCE on THE LINE alone, or where the SNAIL is, does not make it later
    x = yard("y3,2;k1,4;k2,4;k3,4;d9;");
    due("layFor(2, 30, 0)", x.layFor(2, 30, 0), NONE);
    x = yard("y4,2;s1;d9;");
    due("layFor(2, 2, 0), cell 0", x.layFor(2, 2, 0), 1);
    due("layFor(2, 2, 1), cell 0", x.layFor(2, 2, 1), 0);
    due("layFor(3, 3, 0), cell 0 and one more", x.layFor(3, 3, 0), 2);
    due("layFor(3, 3, 1), cell 0 and one more", x.layFor(3, 3, 1), 0);
    due("layFor(3, 3, 2), cell 0 and one more", x.layFor(3, 3, 2), 2);
    // first by the lower: 1 and 3, ahead of 2 and 3
    x = yard("y4,2;k2,4;d9;");
    due("layFor(3, 3, 0)", x.layFor(3, 3, 0), 2);
    due("layFor(3, 3, 1)", x.layFor(3, 3, 1), 1);
    due("layFor(3, 3, 2)", x.layFor(3, 3, 2), 3);
  }

  private static void deciding() {
    sentence = "DECIDES: GRAVES (bits by CELLS) that, were one GRASS, would have the YEAR BEGIN behind fewer or more nights (or at all, or not)";
    of("y4,2;d9;", "decides(), no graves", x -> x.decides(), 0);
    of("y3,2;k2,1;d1;", "decides(), fewer", x -> x.decides(), 4);
    of("y3,2;k2,1;d9;", "decides(), as many", x -> x.decides(), 0);
    of("y3,3;s1;k0,1;k3,3;k4,2;d1;", "decides(), more", x -> x.decides(), 1);
    of("y3,2;k2,1;k3,1;d2;", "decides(), at all", x -> x.decides(), 12);
    // without GRAVE 1 it would go for LETTUCE 3, and from there come to GRAVE 8, too much for DAMP 2
    of("y5,5;k1,1;k3,3;k6,2;k7,2;k8,1;k9,2;d2;", "begins()", x -> x.begins(), 2);
    of("y5,5;k1,1;k3,3;k6,2;k7,2;k8,1;k9,2;d2;", "decides(), or not", x -> x.decides(), 2);
    of("y5,5;k3,3;k6,2;k7,2;k8,1;k9,2;d2;", "begins(), never", x -> x.begins(), NONE);
    of("y5,5;s4;k24,1;d4;", "decides(), the last cell", x -> x.decides(), 1 << 24);
    of("y5,5;s1;k0,1;k5,3;k6,2;d1;", "decides(), the first cell", x -> x.decides(), 1);
    SnailsYear x = yard("y3,2;k2,1;k3,1;d9;");
    x.pass(1);
    due("decides(), begun", x.decides(), 0);
    // behind 31 nights with the GRAVE, behind 30 without
    of("y5,2;k1,2;k3,2;k8,1;k9,2;d0;d0;d1;d0;d0;d0;d0;d0;d0;", "decides(), 30 or none", y -> y.decides(), 1 << 8);
  }

  private static void latest() {
    sentence = "LATEST: the one CELL of GRASS (not the SNAIL's) by whose being SALTED the YEAR BEGINS latest, in 30 nights";
    SnailsYear x = yard("y5,2;d0;d1;d0;d0;d0;d0;d0;");
    due("begins()", x.begins(), 23);
    due("latest(0), 30", x.latest(0), 2);
    due("latest(1), 30", x.latest(1), 30);
    x = yard("y5,2;d0;d0;d1;d0;d0;d0;d0;");
    due("begins()", x.begins(), 24);
    due("latest(0), 31 is not in 30 nights", x.latest(0), 1);
    due("latest(1), 31 is not in 30 nights", x.latest(1), 24);
    x = yard("y3,2;k2,4;k1,2;d1;");
    due("latest(0), of grass alone", x.latest(0), 4);
    due("latest(1), of grass alone", x.latest(1), 3);

    sentence = "of several the lowest; behind how many; none";
    x = yard("y3,2;d9;");
    due("latest(0), all alike", x.latest(0), 1);
    due("latest(1), all alike", x.latest(1), 1);
    x.pass(1);
    due("latest(0), begun", x.latest(0), 0);
    due("latest(1), begun", x.latest(1), 0);
    x = yard("y3,2;k1,2;k2,2;d1;");
    due("latest(0), no year", x.latest(0), NONE);
    due("latest(1), no year", x.latest(1), NONE);
    x = yard("y3,2;k1,4;k2,4;k3,4;k4,4;k5,4;d9;");
    due("latest(0), no grass", x.latest(0), NONE);
    due("latest(1), no grass", x.latest(1), NONE);
    x = yard("y3,2;k1,2;k3,2;k5,2;d1;");
    due("latest(0), each would end it", x.latest(0), NONE);
    of("y3,2;k1,2;k3,2;k5,2;d9;", "latest(0), each would end it, be it ever so damp", y -> y.latest(0), NONE);
    for (int what : new int[] {-1, 2}) due("latest(" + what + ")", x.latest(what), BAD);
  }

  // ---- terms: what was seen

  private static void seen() {
    sentence = "SEEN (8 at most) is that it was in a CELL behind n (0 to 30) nights";
    SnailsYear x = yard("y3,2;d1;");
    for (int n : new int[] {-1, 31}) due("seen(0, " + n + ")", x.seen(0, n), BAD);
    for (int c : new int[] {-1, 6}) due("seen(" + c + ", 0)", x.seen(c, 0), BAD);
    due("count(9)", x.count(9), 0);
    due("seen(0, 0)", x.seen(0, 0), 1);
    due("seen(4, 30)", x.seen(4, 30), 2);
    due("salter(1)", x.salter(1), 1);
    for (int i = 3; i <= 7; i++) due("seen(2, 1)", x.seen(2, 1), i);
    due("seen(5, 30), the eighth", x.seen(5, 30), 8);
    due("salter(1), the eighth is not so", x.salter(1), 0);
    due("seen(4, 30), the ninth", x.seen(4, 30), FULL);
    due("count(9)", x.count(9), 8);
    due("forget()", x.forget(), 8);
    due("forget(), empty", x.forget(), 0);
    due("seen(0, 0)", x.seen(0, 0), 1);
    x.forget();
    x.seen(1, 0);
    due("salter(1), not so behind 0", x.salter(1), 0);
    due("salter(0), not so behind 0", x.salter(0), 0);

    sentence = "counted from the first, as the TEXT tells, nothing done";
    x = yard("y3,2;d0;d1;");
    x.salt(2);
    x.pass(2);
    due("count(3)", x.count(3), 1);
    x.seen(0, 0);
    x.seen(2, 2);
    due("salter(1)", x.salter(1), 1);
    write(x, "x");
    due("salter(1), as the TEXT that is laid", x.salter(1), 1);

    sentence = "SALTER: CELLS (bits) of GRASS, not where it is let off, by whose being SALT from the first on all that was SEEN would be so";
    of("y5,5;", "salter(0)", y -> y.salter(0), (1 << 25) - 2);
    of("y3,5;s4;k0,1;k1,2;k2,3;k3,4;", "salter(0)", y -> y.salter(0), (1 << 15) - (1 << 5));
    of("y3,5;s4;", "salter(0), the first cell", y -> y.salter(0), (1 << 15) - 1 - (1 << 4));
    x = yard("y3,2;d0;d1;d0;");
    int[] nightly = {0, 0, 2, 2, 2, 4, 4};
    for (int n = 0; n < nightly.length; n++) x.seen(nightly[n], n);
    due("salter(1), night by night", x.salter(1), 1);
    due("salter(0), night by night", x.salter(0), 2 + 8 + 32);
    x = yard("y3,2;d1;");
    x.seen(1, 1);
    due("salter(0)", x.salter(0), 20);
    due("salter(1)", x.salter(1), 0);
    x.seen(5, 3);
    due("salter(0)", x.salter(0), 20);
    x.seen(5, 2);
    due("salter(0), none", x.salter(0), 0);
    for (int what : new int[] {-1, 2}) due("salter(" + what + ")", x.salter(what), BAD);
    x = yard("y3,2;k1,2;k3,2;k5,2;d9;");
    x.seen(4, 1);
    due("salter(0), each would end it, be it ever so damp", x.salter(0), 0);
    due("salter(1)", x.salter(1), 1);
    // behind 30 nights: in CELL 8, or with the first SALT only in 7
    x = yard("y5,2;d0;d0;d1;d0;d0;d0;d0;d0;d0;");
    x.seen(7, 30);
    due("salter(0), by the 30th night alone", x.salter(0), 4 + 16 + 64 + 256);

    sentence = "SLEPT: nights (bits, 0 to 29) on which it sleeps, counted from the first, as the TEXT tells";
    of("y3,2;d0;", "slept()", y -> y.slept(), ALL_NIGHTS);
    of("y4,2;k1,2;k4,1;k5,1;d1;d2;", "slept()", y -> y.slept(), ALL_NIGHTS - 1);
    x = yard("y3,2;d0;d1;");
    due("slept()", x.slept(), 5);
    x.salt(1);
    x.pass(30);
    due("slept(), whatever was done", x.slept(), 5);
  }

  private static void likely() {
    sentence = "LIKELY for n (0 to 6) nights: were the DAMP on each of the next n nights 6 by x (0 to 10) of ten, else 0";
    SnailsYear x = yard("y3,2;d9;");
    for (int n : new int[] {-1, 7}) for (int part = 0; part <= 1; part++) due("likely(" + n + ", 5, " + part + ")", x.likely(n, 5, part), BAD);
    for (int c : new int[] {-1, 11}) for (int part = 0; part <= 1; part++) due("likely(1, " + c + ", " + part + ")", x.likely(1, c, part), BAD);
    for (int part : new int[] {-1, 2}) due("likely(1, 5, " + part + ")", x.likely(1, 5, part), BAD);
    int[] above = {0, 1, 1, 3, 2, 1, 3, 7, 4, 9, 1}, below = {1, 10, 5, 10, 5, 2, 5, 10, 5, 10, 1};
    for (int c = 0; c <= 10; c++) {
      due("likely(1, " + c + ", 0)", x.likely(1, c, 0), above[c]);
      due("likely(1, " + c + ", 1)", x.likely(1, c, 1), below[c]);
      due("likely(0, " + c + ", 0)", x.likely(0, c, 0), 0);
      due("likely(0, " + c + ", 1)", x.likely(0, c, 1), 1);
    }
    due("likely(6, 9, 0)", x.likely(6, 9, 0), 999999);
    due("likely(6, 9, 1)", x.likely(6, 9, 1), 1000000);
    due("likely(6, 10, 0)", x.likely(6, 10, 0), 1);
    due("likely(6, 10, 1)", x.likely(6, 10, 1), 1);
    due("likely(6, 0, 0)", x.likely(6, 0, 0), 0);
    due("likely(6, 0, 1)", x.likely(6, 0, 1), 1);
    // six STEPS do, seven do not in one night
    of("y3,2;k1,2;k2,1;k4,1;k5,1;", "likely(1, 10, 0)", y -> y.likely(1, 10, 0), 1);
    of("y4,2;k1,2;k3,2;k2,1;k4,1;k6,1;k7,1;", "likely(1, 10, 0)", y -> y.likely(1, 10, 0), 0);
    of("y4,2;k1,2;k3,2;k2,1;k4,1;k6,1;k7,1;", "likely(2, 10, 0)", y -> y.likely(2, 10, 0), 1);
    // SHADE takes 2 by a DAMP of 6, whatever the DAMP that is told
    of("y5,2;k1,2;k3,2;k5,2;k2,4;k4,4;k6,4;d1;", "likely(1, 10, 0)", y -> y.likely(1, 10, 0), 0);
    // six LETTUCES: six damp nights are too few for the seventh CELL, five LETTUCES are not
    of("y5,3;k1,3;k2,3;k5,3;k8,3;k7,3;k3,2;k4,2;k6,2;k11,2;k10,0;k9,2;", "likely(6, 10, 0)", y -> y.likely(6, 10, 0), 1);
    of("y5,3;k1,3;k2,3;k5,3;k8,3;k7,3;k3,2;k4,2;k6,2;k11,2;k10,0;k9,2;", "likely(5, 10, 0)", y -> y.likely(5, 10, 0), 0);
    of("y5,3;k1,3;k2,3;k5,3;k8,3;k7,3;k3,2;k4,2;k6,2;k11,2;k10,3;k9,2;", "likely(6, 10, 0)", y -> y.likely(6, 10, 0), 0);
    x.pass(1);
    due("likely(0, 0, 0), begun", x.likely(0, 0, 0), 1);
    due("likely(0, 0, 1), begun", x.likely(0, 0, 1), 1);
    due("likely(6, 3, 0), begun", x.likely(6, 3, 0), 1);
    due("likely(6, 3, 1), begun", x.likely(6, 3, 1), 1);

    sentence = "in lowest terms";
    x = yard("y3,2;k1,2;k2,3;d9;");
    due("likely(2, 2, 0): 4 of 100", x.likely(2, 2, 0), 1);
    due("likely(2, 2, 1): 4 of 100", x.likely(2, 2, 1), 25);
    due("likely(2, 3, 0): 9 of 100", x.likely(2, 3, 0), 9);
    due("likely(2, 3, 1): 9 of 100", x.likely(2, 3, 1), 100);
    due("likely(3, 5, 0): 500 of 1000", x.likely(3, 5, 0), 1);
    due("likely(3, 5, 1): 500 of 1000", x.likely(3, 5, 1), 2);

    sentence = "BET on n: 1, if by x it is likelier begun behind n nights than not (as LIKELY), 2, if less, 0, if as likely";
    x = yard("y3,2;d9;");
    due("bet(1, 4)", x.bet(1, 4), 2);
    due("bet(1, 5)", x.bet(1, 5), 0);
    due("bet(1, 6)", x.bet(1, 6), 1);
    due("bet(0, 10)", x.bet(0, 10), 2);
    due("bet(6, 10)", x.bet(6, 10), 1);
    due("bet(6, 0)", x.bet(6, 0), 2);
    due("bet(6, 1), 468559 of 1000000", x.bet(6, 1), 2);
    for (int n : new int[] {-1, 7}) due("bet(" + n + ", 5)", x.bet(n, 5), BAD);
    for (int c : new int[] {-1, 11}) due("bet(1, " + c + ")", x.bet(1, c), BAD);
    x.pass(1);
    due("bet(0, 0), begun", x.bet(0, 0), 1);
  }

  private static int drawn(int z, int k) {
    long q = 7919L * z + 6151L * k + 1;
    return (int) (q * q % 65521 / 8 % 7);
  }

  private static void years() {
    sentence = "DRAW being ((q times q) modulo 65521) by 8, cut, q 7919 z, 6151 k and 1 together";
    due("z 0, k 0: 1 by 8, cut", drawn(0, 0), 0);
    due("z 0, k 1: 6152 squared is 37847104, 41487 modulo 65521, 5185 by 8", drawn(0, 1), 5185 % 7);
    due("z 1, k 0: 7920 squared is 62726400, 22803 modulo 65521, 2850 by 8", drawn(1, 0), 2850 % 7);

    sentence = "A YEAR by z (0 to 9999): .. behind how many nights it BEGINS (30 at most; none); where it is then, or behind 30";
    SnailsYear x = yard("y3,2;d9;");
    for (int z : new int[] {-1, 10000}) for (int what = 0; what <= 1; what++) due("year(" + z + ", " + what + ")", x.year(z, what), BAD);
    for (int what : new int[] {-1, 2}) due("year(0, " + what + ")", x.year(0, what), BAD);
    // one way alone, of twelve GRAVES, so that each night takes a third of the DAMP
    String text = "y5,5;k5,2;k6,2;k7,2;k8,2;k16,2;k17,2;k18,2;k19,2;k1,1;k2,1;k3,1;k4,1;k9,1;k14,1;k13,1;k12,1;k11,1;k10,1;k15,1;k20,1;";
    int[] cells = {0, 1, 2, 3, 4, 9, 14, 13, 12, 11, 10, 15, 20};
    int at30 = 0, at31 = 0;
    x = yard(text);
    for (int z = 0, asked = 0; z <= 9999; z++) {
      int gone = 0, nights = 0;
      for (; gone < 12 && nights < 31; nights++) {
        gone = Math.min(12, gone + drawn(z, nights) / 3);
        if (nights == 29 && gone < 12) break;
      }
      boolean begun = gone == 12;
      boolean next = !begun && gone + drawn(z, 30) / 3 >= 12;
      if (begun && nights == 30) at30++;
      if (next) at31++;
      if (z < 50 || z > 9950 || next || begun && nights == 30) {
        if (asked++ % 50 == 0) x = yard(text);
        due("year(" + z + ", 0)", x.year(z, 0), begun ? nights : NONE);
        due("year(" + z + ", 1)", x.year(z, 1), cells[gone]);
      }
    }
    due("a year begins behind 30", at30 > 0 ? 1 : 0, 1);
    due("a year would begin behind 31", at31 > 0 ? 1 : 0, 1);

    sentence = "were the DAMP of the k-th night from now on (0 first) ..";
    x = yard("y5,2;k1,2;k3,2;k5,2;k7,2;d1;");
    int[] before = new int[40];
    for (int z = 0; z < 40; z++) before[z] = x.year(z, 0);
    x = yard("y5,2;k1,2;k3,2;k5,2;k7,2;d0;");
    x.pass(7);
    for (int z = 0; z < 40; z++) due("year(" + z + ", 0), nights gone by", x.year(z, 0), before[z]);
    x = yard("y3,2;d9;");
    x.pass(1);
    due("year(0, 0), begun", x.year(0, 0), 0);
    due("year(9999, 1), begun", x.year(9999, 1), 4);
  }

  // ---- terms: kept

  private static void kept() {
    sentence = "KEPT is all as it stands, but what is SEEN: 2 at most";
    SnailsYear x = yard("y4,2;k3,1;k4,3;k5,4;d1;r0,1;r9,10;");
    due("back(), empty", x.back(), NO);
    x.seen(0, 0);
    due("keep()", x.keep(), 1);
    x.pass(30);
    x.salt(0);
    x.stone(3, 1);
    due("keep()", x.keep(), 2);
    due("keep(), the third", x.keep(), FULL);
    due("count(11)", x.count(11), 2);
    x.undo();
    x.undo();
    x.undo();
    x.seen(2, 1);
    due("back()", x.back(), 1);
    due("count(2)", x.count(2), 30);
    due("count(3)", x.count(3), 6);
    due("begins()", x.begins(), 0);
    due("due(), as it began", x.due(), 1);
    due("cell(0, 0)", x.cell(0, 0), 2);
    due("cell(1, 0)", x.cell(1, 0), 1);
    due("cell(3, 0)", x.cell(3, 0), 0);
    due("cell(4, 0)", x.cell(4, 0), 0);
    due("count(9), but what is SEEN", x.count(9), 2);
    due("keep(), there is room again", x.keep(), 2);
    due("back()", x.back(), 1);
    due("back()", x.back(), 0);
    due("count(2)", x.count(2), 0);
    due("count(3)", x.count(3), 0);
    due("begins()", x.begins(), 3);
    due("cell(0, 0)", x.cell(0, 0), 0);
    due("cell(3, 0)", x.cell(3, 0), 1);
    due("cell(4, 0)", x.cell(4, 0), 3);
    due("count(9)", x.count(9), 2);
    due("back(), empty again", x.back(), NO);

    sentence = "As KEPT last: how many are left; nothing is UNDONE then";
    x = yard("y4,2;d1;");
    x.lettuce(1);
    x.keep();
    due("count(10), keeping takes nothing away", x.count(10), 1);
    x.lettuce(2);
    x.back();
    due("count(10)", x.count(10), 0);
    due("undo()", x.undo(), NO);
    due("count(4)", x.count(4), 1);
    x.pass(1);
    due("undo(), done since", x.undo(), 0);
    due("undo()", x.undo(), NO);
  }

  private static void laidAnew() {
    sentence = "LAID: how many CELLS; night 0, nothing SEEN, UNDONE, KEPT";
    SnailsYear x = new SnailsYear();
    write(x, "s2;");
    x.seen(0, 0);
    x.keep();
    x.keep();
    for (int i = 0; i < 9; i++) x.pass(1);
    due("lay()", x.lay(), 20);
    int[] counts = {20, 4, 0, 2, 0, 0, 0, 0, 0, 0, 0, 0, 3};
    for (int what = 0; what <= 12; what++) due("count(" + what + ")", x.count(what), counts[what]);
    due("undo()", x.undo(), NO);
    due("back()", x.back(), NO);
    due("forget()", x.forget(), 0);
    due("begins(), not begun any more", x.begins(), 2);
    due("keep()", x.keep(), 1);
    due("lay() of the same TEXT again", x.lay(), 20);
    due("count(11)", x.count(11), 0);
    // nothing of the yard laid before is left, not its KINDS, DAMPS, RENTS or HEIRS
    x = yard("y5,5;k1,1;k24,2;s4;d7;r0,9;h4;");
    x.wipe();
    write(x, "d0;");
    x.lay();
    x.wipe();
    write(x, "y5,5;");
    due("lay()", x.lay(), 25);
    for (int c = 0; c < 25; c++) due("cell(" + c + ", 0)", x.cell(c, 0), 0);
    int[] bare = {25, 5, 0, 0, 0, 0, 0, 0, 0, 0, 0, 0, 5};
    for (int what = 0; what <= 12; what++) due("count(" + what + ")", x.count(what), bare[what]);
    due("damp(0)", x.damp(0), 3);
  }

  /** A large YARD LAID behind a small one, and a small one behind a large one, are as they would be alone. */
  private static void laidBehind() {
    sentence = "A YARD of R (3 to 5) rows of C (2 to 5) CELLS, LAID behind another";
    String[] texts = {"y3,2;d9;", "y5,5;k6,1;k18,1;s2;d3;d1;r9,9;h4;", "y3,5;k7,3;d2;", "y5,2;k4,4;k5,1;d1;h1;", "y4,5;k12,2;k14,1;k19,1;s4;d4;",
        "y5,5;k0,4;k1,4;k2,4;k3,4;k5,4;s4;d9;"};
    for (String before : texts)
      for (String text : texts) {
        SnailsYear alone = write(new SnailsYear(), text), x = write(new SnailsYear(), before);
        alone.lay();
        x.lay();
        x.pass(2);
        x.wipe();
        write(x, text);
        due("lay()", x.lay(), alone.count(0));
        int last = x.count(0) - 1;
        int[] got = asked(x, last), want = asked(alone, last);
        for (int i = 0; i < want.length; i++) due(text + " behind " + before + ", answer " + i, got[i], want[i]);
      }
    of("y5,5;k0,4;k1,4;k2,4;k3,4;k5,4;s4;d9;", "layFor(2, 2, 1), four STEPS away by 9, 8 and 7", x -> x.layFor(2, 2, 1), 6);
    SnailsYear x = yard("y5,5;k23,1;k22,3;");
    due("lettuce(24)", x.lettuce(24), 2);
    due("stone(23, 20)", x.stone(23, 20), 1);
    due("salt(23)", x.salt(23), 0);
    due("count(4)", x.count(4), 2);
    due("count(5)", x.count(5), 1);
    due("count(6)", x.count(6), 1);
  }

  private static int[] asked(SnailsYear x, int last) {
    return new int[] {x.begins(), x.due(), x.heir(), x.far(last), x.decides(), x.latest(0), x.latest(1), x.salter(0), x.slept(),
        x.layFor(2, 2, 0), x.layFor(2, 2, 1), x.layFor(3, 3, 1), x.layFor(3, 3, 2), x.layFor(5, 30, 0), x.layFor(5, 30, 1), x.layFor(5, 30, 2), x.layFor(0, 30, 0), x.where(1),
        x.likely(3, 3, 0), x.likely(3, 3, 1), x.bet(2, 7), x.year(5, 0), x.year(5, 1), x.damp(7), x.count(3), x.cell(last, 1),
        x.lettuce(last), x.lettuce(last - 1), x.count(4), x.salt(last - 2), x.count(6), x.stone(last, last - 3), x.undo(), x.undo()};
  }

  private static void nights() {
    sentence = "The DAMP of a night (0 to 999). BAD";
    SnailsYear x = yard("d1;d2;d3;");
    due("damp(-1)", x.damp(-1), BAD);
    due("damp(0)", x.damp(0), 1);
    due("damp(999)", x.damp(999), 1);
    due("damp(1000)", x.damp(1000), BAD);

    sentence = "n (1 to 30) nights go by: which the next one is. BAD; NO: above 999";
    x = yard("y5,2;d0;");
    due("pass(0)", x.pass(0), BAD);
    due("pass(31)", x.pass(31), BAD);
    due("pass(1)", x.pass(1), 1);
    due("pass(30)", x.pass(30), 31);
    for (int n = 61; n <= 991; n += 30) due("pass(30)", x.pass(30), n);
    due("pass(9)", x.pass(9), NO);
    due("pass(30)", x.pass(30), NO);
    due("count(2)", x.count(2), 991);
    due("pass(8)", x.pass(8), 999);
    due("pass(1)", x.pass(1), NO);
    due("pass(0)", x.pass(0), BAD);
    due("count(2)", x.count(2), 999);
    due("undo()", x.undo(), 7);
    due("count(2)", x.count(2), 991);

    sentence = "Of a CELL: KIND (what = 0), STEPS to come into it in the next night (1; NONE: SALT). BAD";
    x = yard("y3,2;k3,4;k5,2;d3;d2;");
    due("cell(3, 1)", x.cell(3, 1), 2);
    due("cell(5, 1)", x.cell(5, 1), NONE);
    x.pass(1);
    due("cell(3, 1), the next night", x.cell(3, 1), 1);
    x.pass(1);
    due("cell(3, 1), again from the first on", x.cell(3, 1), 2);
    for (int what : new int[] {-1, 2}) due("cell(3, " + what + ")", x.cell(3, what), BAD);
    for (int c : new int[] {-1, 6}) for (int what = 0; what <= 1; what++) due("cell(" + c + ", " + what + ")", x.cell(c, what), BAD);

    sentence = "How many: 0 CELLS, .. 12 letters of THE TEXT. BAD";
    x = yard("y3,4;s2;k4,1;k5,1;k6,2;k7,3;k8,3;k9,3;r1,1;r1,1;h0;");
    int[] counts = {12, 4, 0, 2, 3, 2, 1, 2, 1, 0, 0, 0, 51};
    for (int what = 0; what <= 12; what++) due("count(" + what + ")", x.count(what), counts[what]);
    due("count(-1)", x.count(-1), BAD);
    due("count(13)", x.count(13), BAD);
  }

  public static void main(String[] args) {
    letters();
    writing();
    items();
    shapes();
    rows();
    kinds();
    starts();
    damps();
    rents();
    heirs();
    firstFault();
    steps();
    sides();
    sleeps();
    lettuces();
    goals();
    doings();
    undone();
    fromNowOn();
    whoIsHeir();
    howFar();
    laying();
    deciding();
    latest();
    seen();
    likely();
    years();
    kept();
    laidAnew();
    laidBehind();
    nights();
    System.out.println(wrong == 0 ? "every boundary holds" : wrong + " answers are not as due");
    if (wrong != 0) System.exit(1);
  }
}
