import java.util.function.ToIntFunction;

/**
 * One test for each sentence of "What it is", "The public face" and "Terms" of the document that names a boundary
 * case. A failure tells the sentence. No object gets more than 512 calls.
 */
public final class TermsTest {
  private static final int BAD_ARG = -1;
  private static final int NONE = -2;
  private static final int CLASH = -3;

  /** Just outside, and numbers that would be cells, clues or totals if some of their bits were dropped. */
  private static final int[] NO_CELLS = {-1, -2, -3, -5, -20, -32, 20, 21, 24, 25, 31, 32, 51, 64, 256, 65536,
      Integer.MIN_VALUE, Integer.MIN_VALUE + 7, Integer.MAX_VALUE, Integer.MAX_VALUE - 31};
  private static final int[] NO_CLUES = {-1, -2, -3, -8, 9, 10, 16, 20, 32, 256, 65536, 65544,
      Integer.MIN_VALUE, Integer.MIN_VALUE + 1, Integer.MAX_VALUE};
  private static final int[] NO_TOTALS = {-2, -3, -20, 21, 22, 32, 256, 65536, 65556,
      Integer.MIN_VALUE, Integer.MIN_VALUE + 1, Integer.MAX_VALUE};

  private static final int[][] NEAR = {
      {1, 5, 6}, {0, 2, 5, 6, 7}, {1, 3, 6, 7, 8}, {2, 4, 7, 8, 9}, {3, 8, 9},
      {0, 1, 6, 10, 11}, {0, 1, 2, 5, 7, 10, 11, 12}, {1, 2, 3, 6, 8, 11, 12, 13}, {2, 3, 4, 7, 9, 12, 13, 14}, {3, 4, 8, 13, 14},
      {5, 6, 11, 15, 16}, {5, 6, 7, 10, 12, 15, 16, 17}, {6, 7, 8, 11, 13, 16, 17, 18}, {7, 8, 9, 12, 14, 17, 18, 19}, {8, 9, 13, 18, 19},
      {10, 11, 16}, {10, 11, 12, 15, 17}, {11, 12, 13, 16, 18}, {12, 13, 14, 17, 19}, {13, 14, 18}};

  private static String sentence = "";
  private static int tests = 0;
  private static int wrong = 0;

  private static void due(String call, int got, int want) {
    if (got == want) return;
    wrong++;
    System.out.println(sentence + ": " + call + " answered " + got + ", due is " + want);
  }

  private static void test(String told, Runnable body) {
    sentence = told;
    tests++;
    try {
      body.run();
    } catch (RuntimeException | Error e) {
      wrong++;
      System.out.println(sentence + ": a call threw " + e);
    }
  }

  /** An object with these cells shown, given as cell, clue, cell, clue and so on. */
  private static MineReasoner field(int... cellsAndClues) {
    MineReasoner x = new MineReasoner();
    for (int i = 0; i < cellsAndClues.length; i += 2) x.show(cellsAndClues[i], cellsAndClues[i + 1]);
    return x;
  }

  private static MineReasoner allShown(int clue) {
    MineReasoner x = new MineReasoner();
    for (int c = 0; c < 20; c++) x.show(c, clue);
    return x;
  }

  /** All cells are shown but one; no clue but those of its neighbours is above 0. */
  private static MineReasoner allShownBut(int cell, int clueOfNeighbours) {
    MineReasoner x = allShown(0);
    x.cover(cell);
    for (int n : NEAR[cell]) x.show(n, clueOfNeighbours);
    return x;
  }

  private static int set(int... cells) {
    int sum = 0;
    for (int c : cells) sum |= 1 << c;
    return sum;
  }

  private static int choose(int n, int k) {
    if (k < 0 || k > n) return 0;
    long ways = 1;
    for (int i = 0; i < k; i++) ways = ways * (n - i) / (i + 1);
    return (int) ways;
  }

  // What it is

  /** Field after 511 calls: cell 0 is shown with 3, the total is 12. */
  private static MineReasoner after511Calls() {
    MineReasoner x = new MineReasoner();
    for (int i = 0; i < 102; i++) {
      x.show(i % 20, i % 9);
      x.total(i % 22 - 1);
      x.layouts();
      x.paired();
      x.cover(i % 20);
    }
    x.show(0, 3);
    return x;
  }

  private static void the512thCall() {
    due("show(0, 2)", after511Calls().show(0, 2), 3);
    due("show(1, 2)", after511Calls().show(1, 2), NONE);
    due("show(20, 2)", after511Calls().show(20, 2), BAD_ARG);
    due("cover(0)", after511Calls().cover(0), 3);
    due("total(20)", after511Calls().total(20), 12);
    due("clue(0)", after511Calls().clue(0), 3);
    due("groups()", after511Calls().groups(), 1);
    due("groupOf(1)", after511Calls().groupOf(1), 3);
    due("layouts()", after511Calls().layouts(), 11440);
    due("mined(19)", after511Calls().mined(19), 6435);
    due("free()", after511Calls().free(), 0);
    due("sure()", after511Calls().sure(), set(1, 5, 6));
    due("best()", after511Calls().best(), 2);
    due("clues(2)", after511Calls().clues(2), set(2, 3, 4, 5));
    due("withMines(12)", after511Calls().withMines(12), 11440);
    due("simple()", after511Calls().simple(), 3);
    due("paired()", after511Calls().paired(), 3);
    due("decided(1)", after511Calls().decided(1), 1);
  }

  // The public face, and the constants

  private static void badArg() {
    due("BAD_ARG", MineReasoner.BAD_ARG, -1);
    due("clue(20)", new MineReasoner().clue(20), MineReasoner.BAD_ARG);
  }

  private static void none() {
    due("NONE", MineReasoner.NONE, -2);
    due("clue(19)", new MineReasoner().clue(19), MineReasoner.NONE);
  }

  private static void clash() {
    due("CLASH", MineReasoner.CLASH, -3);
    due("simple()", field(0, 4).simple(), MineReasoner.CLASH);
  }

  // Terms: the field

  private static void rowsAndColumns() {
    for (int r = 0; r < 4; r++) {
      for (int k = 0; k < 5; k++) {
        int cell = 5 * r + k;
        MineReasoner x = field(cell, 0);
        int height = r == 0 || r == 3 ? 2 : 3;
        int width = k == 0 || k == 4 ? 2 : 3;
        due("groupOf of a neighbour of " + cell, x.groupOf(NEAR[cell][0]), height * width - 1);
      }
    }
    for (int cell : new int[] {0, 4, 15, 19}) due("show(" + cell + ", 3) at a corner, then simple()", field(cell, 3).simple(), 3);
    due("cell 20 in row 4", new MineReasoner().show(20, 0), BAD_ARG);
    due("cell -1 before row 0", new MineReasoner().show(-1, 0), BAD_ARG);
  }

  private static void neighbours() {
    for (int c = 0; c < 20; c++) {
      int many = NEAR[c].length;
      due("free() with " + c + ":0", field(c, 0).free(), set(NEAR[c]));
      due("sure() with " + c + ":" + many, field(c, many).sure(), set(NEAR[c]));
      due("clues(" + c + ") of a new object", new MineReasoner().clues(c), (2 << many) - 1);
      MineReasoner x = field(c, many);
      for (int d = 0; d < 20; d++) {
        boolean near = (set(NEAR[c]) >> d & 1) != 0;
        due("groupOf(" + d + ") with " + c, x.groupOf(d), near ? many : 0);
        due("decided(" + d + ") with " + c + ":" + many, x.decided(d), near ? 1 : NONE);
      }
    }
  }

  private static void noNeighboursOverTheEnds() {
    due("groupOf(5) with 4: over the end of row 0", field(4, 0).groupOf(5), 0);
    due("groupOf(10) with 4: over the end of row 1", field(4, 0).groupOf(10), 0);
    due("groupOf(4) with 5: over the start of row 1", field(5, 0).groupOf(4), 0);
    due("groupOf(9) with 15: over the start of row 2", field(15, 0).groupOf(9), 0);
    due("groupOf(14) with 10", field(10, 0).groupOf(14), 0);
    due("groupOf(0) with 15: from row 3 to row 0", field(15, 0).groupOf(0), 0);
    due("groupOf(19) with 4: from row 0 to row 3", field(4, 0).groupOf(19), 0);
    due("groupOf(19) with 0: from the first to the last cell", field(0, 0).groupOf(19), 0);
    due("groupOf(2) with 0: two columns off", field(0, 0).groupOf(2), 0);
    due("groupOf(10) with 0: two rows off", field(0, 0).groupOf(10), 0);
  }

  private static void clueFrom0To8() {
    for (int c = 0; c < 20; c++) {
      int many = NEAR[c].length;
      for (int n = 0; n <= 8; n++) {
        MineReasoner x = field(c, n);
        due("clue(" + c + ")", x.clue(c), n);
        due("layouts() with " + c + ":" + n, x.layouts(), choose(many, n) << 19 - many);
        due("simple() with " + c + ":" + n, x.simple(), n > many ? CLASH : n == 0 || n == many ? many : 0);
      }
    }
  }

  private static void totalFrom0To20OrNone() {
    MineReasoner x = new MineReasoner();
    due("layouts() with no total", x.layouts(), 1 << 20);
    for (int n = 0; n <= 20; n++) {
      due("total(" + n + ")", x.total(n), n - 1);
      due("layouts() with total " + n, x.layouts(), choose(20, n));
      due("mined(7) with total " + n, x.mined(7), choose(19, n - 1));
    }
    due("total(-1)", x.total(-1), 20);
    due("layouts() with no total again", x.layouts(), 1 << 20);
  }

  // Terms: layouts

  private static void layoutsAreOfCoveredCells() {
    due("layouts() with no covered cell", allShown(0).layouts(), 1);
    for (int c = 0; c < 20; c++) {
      due("layouts() with only " + c + " covered, free", allShownBut(c, 0).layouts(), 1);
      due("mined(" + c + ") alone, free", allShownBut(c, 0).mined(c), 0);
      due("layouts() with only " + c + " covered, mined", allShownBut(c, 1).layouts(), 1);
      due("mined(" + c + ") alone, mined", allShownBut(c, 1).mined(c), 1);
      due("layouts() with only " + c + " covered, 2 around", allShownBut(c, 2).layouts(), 0);
    }
    MineReasoner x = field(0, 3);
    x.total(20);
    due("layouts() with as many mines as cells, one shown", x.layouts(), 0);
    x.total(19);
    due("layouts() with as many mines as covered cells", x.layouts(), 1);
    due("mined(0), shown", x.mined(0), 0);
  }

  private static void layoutsFitEachClue() {
    due("layouts() with no shown cell", new MineReasoner().layouts(), 1 << 20);
    due("layouts() with clue 0", field(12, 0).layouts(), 1 << 11);
    due("layouts() with clue 1", field(12, 1).layouts(), 8 << 11);
    due("layouts() with clue 7 of 8", field(12, 7).layouts(), 8 << 11);
    due("layouts() with clue 8 of 8", field(12, 8).layouts(), 1 << 11);
    due("layouts() with clue 3 of 3", field(19, 3).layouts(), 1 << 16);
    due("layouts() with clue 4 of 3", field(19, 4).layouts(), 0);
    due("layouts() with clue 0 beside a clue 1 that needs a mine elsewhere", field(0, 0, 1, 1).layouts(), 2 << 14);
    due("layouts() with clue 0 beside a clue too large by 1", field(0, 0, 1, 3).layouts(), 0);
    due("layouts() with the last cell's clue not met", field(0, 1, 19, 4).layouts(), 0);
    due("layouts() with no covered cell and one clue 1", allButOneClue0(19).layouts(), 0);
  }

  private static MineReasoner allButOneClue0(int c) {
    MineReasoner x = allShown(0);
    x.show(c, 1);
    return x;
  }

  private static void layoutsFitTheTotal() {
    MineReasoner x = field(0, 3);
    int[] totals = {-1, 0, 2, 3, 4, 18, 19, 20, -1};
    int[] layouts = {1 << 16, 0, 0, 1, 16, 16, 1, 0, 1 << 16};
    for (int i = 0; i < totals.length; i++) {
      x.total(totals[i]);
      due("layouts() with 0:3 and total " + totals[i], x.layouts(), layouts[i]);
    }
    MineReasoner full = allShown(0);
    full.total(0);
    due("layouts() with no covered cell and total 0", full.layouts(), 1);
    full.total(1);
    due("layouts() with no covered cell and total 1", full.layouts(), 0);
    full.total(20);
    due("layouts() with no covered cell and total 20", full.layouts(), 0);
  }

  // Terms: groups

  private static void edge() {
    MineReasoner none = new MineReasoner();
    MineReasoner full = allShown(1);
    for (int c = 0; c < 20; c++) {
      due("groupOf(" + c + ") with no shown cell", none.groupOf(c), 0);
      due("groupOf(" + c + ") with no covered cell", full.groupOf(c), 0);
      due("groupOf(" + c + ") of the only covered cell", allShownBut(c, 0).groupOf(c), 1);
      due("groups() with " + c + " the only covered cell", allShownBut(c, 0).groups(), 1);
      due("groups() with " + c + " the only shown cell", field(c, 0).groups(), 1);
    }
    MineReasoner row1 = field(5, 0, 6, 0, 7, 0, 8, 0, 9, 0);
    for (int c = 0; c < 20; c++) due("groupOf(" + c + ") with row 1 shown", row1.groupOf(c), c / 5 == 0 || c / 5 == 2 ? 10 : 0);
  }

  private static void sameGroup() {
    // Rows 1 and 2 touch, but no shown cell has neighbours in both.
    MineReasoner rows = field(0, 1, 1, 1, 2, 1, 3, 1, 4, 1, 15, 1, 16, 1, 17, 1, 18, 1, 19, 1);
    due("groups() with rows 0 and 3 shown", rows.groups(), 2);
    for (int c = 0; c < 20; c++) due("groupOf(" + c + ") with rows 0 and 3 shown", rows.groupOf(c), c >= 5 && c < 15 ? 5 : 0);
    MineReasoner whole = field(1, 1, 3, 1, 11, 1, 13, 1);
    due("groups() with all covered cells in one", whole.groups(), 1);
    for (int c = 0; c < 20; c++) due("groupOf(" + c + ") with all covered cells in one", whole.groupOf(c), c == 1 || c == 3 || c == 11 || c == 13 ? 0 : 16);
    // Each shown cell shares covered ones with the next alone, so the ends meet only through all between.
    MineReasoner chain = field(1, 0, 7, 0, 13, 0, 19, 0);
    due("groups() with a chain", chain.groups(), 1);
    for (int c : new int[] {0, 5, 14, 18}) due("groupOf(" + c + ") at an end of a chain", chain.groupOf(c), 12);
    MineReasoner ends = field(1, 0, 19, 0);
    due("groups() with the ends of the chain alone", ends.groups(), 2);
    due("groupOf(0) at the first end alone", ends.groupOf(0), 5);
    due("groupOf(14) at the last end alone", ends.groupOf(14), 3);
    MineReasoner corners = allShown(0);
    for (int c : new int[] {0, 4, 15, 19}) corners.cover(c);
    due("groups() with lone cells at the corners", corners.groups(), 4);
    for (int c : new int[] {0, 4, 15, 19}) due("groupOf(" + c + ") alone", corners.groupOf(c), 1);
  }

  // Terms: rules

  private static void rulesDecideCoveredCells() {
    due("simple() with no shown cell", new MineReasoner().simple(), 0);
    due("paired() with no shown cell", new MineReasoner().paired(), 0);
    due("simple() with no covered cell", allShown(0).simple(), 0);
    due("paired() with no covered cell", allShown(0).paired(), 0);
    MineReasoner full = allShown(0);
    for (int c = 0; c < 20; c++) {
      due("decided(" + c + ") with no covered cell", full.decided(c), NONE);
      due("simple() with only " + c + " covered, free", allShownBut(c, 0).simple(), 1);
      due("decided(" + c + ") alone, free", allShownBut(c, 0).decided(c), 0);
      due("simple() with only " + c + " covered, mined", allShownBut(c, 1).simple(), 1);
      due("decided(" + c + ") alone, mined", allShownBut(c, 1).decided(c), 1);
    }
    due("simple() with all covered cells free", field(1, 0, 3, 0, 11, 0, 13, 0).simple(), 16);
    due("simple() with all covered cells mined", field(1, 5, 3, 5, 11, 8, 13, 8).simple(), 16);
    due("simple() with cells decided from two sides", field(0, 0, 2, 0).simple(), 6);
  }

  private static void decidedStays() {
    // 2 has 1, 3, 6, 7 and 8 mined; for 0 and for 4 the two that they share with it leave nothing.
    MineReasoner x = field(0, 2, 2, 5, 4, 2);
    due("simple()", x.simple(), 7);
    for (int c : new int[] {1, 3, 6, 7, 8}) due("decided(" + c + ")", x.decided(c), 1);
    for (int c : new int[] {5, 9}) due("decided(" + c + ")", x.decided(c), 0);
    // 0 frees 1 and 6, so they are not open for 2 any more.
    MineReasoner y = field(0, 0, 2, 3, 4, 2);
    due("simple()", y.simple(), 7);
    for (int c : new int[] {1, 5, 6, 9}) due("decided(" + c + ")", y.decided(c), 0);
    for (int c : new int[] {3, 7, 8}) due("decided(" + c + ")", y.decided(c), 1);
    // 13 frees 8 and 9, then 2 has 3 mined: for 4 nothing is open any more. The same turned upside down.
    due("simple() with none open and nothing left", field(2, 3, 4, 1, 13, 0).simple(), 11);
    due("simple() with none open and 1 left", field(2, 3, 4, 2, 13, 0).simple(), CLASH);
    due("paired() with none open and 1 left", field(2, 3, 4, 2, 13, 0).paired(), CLASH);
    due("simple() with none open and 1 left, turned", field(17, 3, 19, 2, 8, 0).simple(), CLASH);
  }

  private static void clashBelow0() {
    due("simple() with 0 left, then", field(2, 5, 4, 2).simple(), 6);
    due("simple() with 1 below 0, at a later cell", field(2, 5, 4, 1).simple(), CLASH);
    due("simple() with 1 below 0, at an earlier cell", field(0, 1, 2, 5).simple(), CLASH);
    due("simple() with 2 below 0", field(2, 5, 4, 0).simple(), CLASH);
    // All neighbours of 0 are decided or shown: nothing is open there.
    due("simple() with 0 left and none open", field(0, 2, 2, 5, 5, 4).simple(), 7);
    due("simple() with 1 below 0 and none open", field(0, 1, 2, 5, 5, 4).simple(), CLASH);
    due("paired() with 1 below 0", field(2, 5, 4, 1).paired(), CLASH);
    due("decided(9) with 1 below 0", field(2, 5, 4, 1).decided(9), CLASH);
  }

  private static void clashAboveOpen() {
    for (int c = 0; c < 20; c++) {
      int many = NEAR[c].length;
      due("simple() with as many left as open at " + c, field(c, many).simple(), many);
      if (many < 8) {
        due("simple() with 1 above open at " + c, field(c, many + 1).simple(), CLASH);
        due("paired() with 1 above open at " + c, field(c, many + 1).paired(), CLASH);
      }
    }
    due("simple() with as many left as open after others were freed", field(0, 0, 2, 3).simple(), 6);
    due("simple() with 1 above open after others were freed", field(0, 0, 2, 4).simple(), CLASH);
    due("simple() with no covered neighbour and nothing left", field(0, 0, 1, 1, 5, 1, 6, 2).simple(), 0);
    due("simple() with no covered neighbour and 1 left", field(0, 1, 1, 1, 5, 1, 6, 2).simple(), CLASH);
    due("simple() with no covered cell and 1 left at the last", allButOneClue0(19).simple(), CLASH);
    due("simple() with no covered cell and 1 left at the first", allButOneClue0(0).simple(), CLASH);
  }

  private static void rule1NothingLeft() {
    for (int c = 0; c < 20; c++) {
      due("simple() with " + c + ":0", field(c, 0).simple(), NEAR[c].length);
      due("decided(" + NEAR[c][0] + ") with " + c + ":0", field(c, 0).decided(NEAR[c][0]), 0);
    }
    due("simple() with 1 left", field(12, 1).simple(), 0);
    due("decided(6) with 1 left", field(12, 1).decided(6), NONE);
    due("decided(1) with nothing left after mines were decided", field(2, 2, 4, 3).decided(1), 0);
    due("decided(1) with 1 left after mines were decided", field(2, 3, 4, 3).decided(1), NONE);
    due("decided(9) with nothing left after mines were decided", field(2, 5, 4, 2).decided(9), 0);
  }

  private static void rule1AllLeft() {
    for (int c = 0; c < 20; c++) {
      int many = NEAR[c].length;
      due("decided(" + NEAR[c][0] + ") with " + c + ":" + many, field(c, many).decided(NEAR[c][0]), 1);
      due("simple() with " + c + ":" + (many - 1), field(c, many - 1).simple(), 0);
    }
    due("decided(3) with all left after others were freed", field(0, 0, 2, 3).decided(3), 1);
    due("decided(3) with 1 less", field(0, 0, 2, 2).decided(3), NONE);
  }

  /** Open for 10 are 5, 6, 15 and 16; for 11 these and 7, 12 and 17. */
  private static MineReasoner sideBySide(int clueOf10, int clueOf11) {
    return field(10, clueOf10, 11, clueOf11);
  }

  /** The same with 7, 12 and 17 shown: 5, 6, 15 and 16 are open for 10 and for 11. */
  private static MineReasoner noOthers(int clueOf10, int clueOf11) {
    return field(10, clueOf10, 11, clueOf11, 7, 3, 12, 2, 17, 1);
  }

  private static void rule2SameLeft() {
    MineReasoner x = sideBySide(2, 2);
    due("simple() with the same left", x.simple(), 0);
    due("paired() with the same left", x.paired(), 3);
    for (int c : new int[] {7, 12, 17}) due("decided(" + c + ") with the same left", x.decided(c), 0);
    for (int c : new int[] {5, 6, 15, 16}) due("decided(" + c + ") with the same left", x.decided(c), NONE);
    due("paired() with 1 more left", sideBySide(2, 3).paired(), 0);
    due("paired() with the same left and no others", noOthers(1, 1).paired(), 0);
    due("decided(2) with 1 the larger", field(0, 1, 1, 1).decided(2), 0);
    due("decided(17) with 18 the larger", field(19, 1, 18, 1).decided(17), 0);
  }

  private static void rule2AsManyMoreAsOthers() {
    MineReasoner x = sideBySide(2, 5);
    due("simple() with 3 more left", x.simple(), 0);
    due("paired() with 3 more left", x.paired(), 3);
    for (int c : new int[] {7, 12, 17}) due("decided(" + c + ") with 3 more left", x.decided(c), 1);
    for (int c : new int[] {5, 6, 15, 16}) due("decided(" + c + ") with 3 more left", x.decided(c), NONE);
    due("paired() with 2 more left", sideBySide(2, 4).paired(), 0);
    due("decided(2) with 1 the larger", field(0, 1, 1, 3).decided(2), 1);
    due("decided(17) with 18 the larger", field(19, 1, 18, 3).decided(17), 1);
  }

  private static void rule2FewerLeft() {
    due("simple() with 1 less left", sideBySide(2, 1).simple(), 0);
    due("paired() with 1 less left", sideBySide(2, 1).paired(), CLASH);
    due("paired() with 2 less left", sideBySide(3, 1).paired(), CLASH);
    due("decided(7) with 1 less left", sideBySide(2, 1).decided(7), CLASH);
    due("simple() with 1 less left and no others", noOthers(2, 1).simple(), 0);
    due("paired() with 1 less left and no others", noOthers(2, 1).paired(), CLASH);
    due("paired() with 1 less left at the last cells", field(14, 2, 13, 1).paired(), CLASH);
  }

  private static void rule2TooManyMoreLeft() {
    due("simple() with 4 more left", sideBySide(2, 6).simple(), 0);
    due("paired() with 4 more left", sideBySide(2, 6).paired(), CLASH);
    due("paired() with 5 more left", sideBySide(1, 6).paired(), CLASH);
    due("decided(7) with 4 more left", sideBySide(2, 6).decided(7), CLASH);
    due("simple() with 1 more left and no others", noOthers(1, 2).simple(), 0);
    due("paired() with 1 more left and no others", noOthers(1, 2).paired(), CLASH);
    due("paired() with 4 more left at the last cells", field(14, 2, 13, 6).paired(), CLASH);
  }

  private static void rule2OnlyIfAllOpenCellsAreShared() {
    // Open for 0 are 1, 5 and 6; for 2 are 1, 3, 6, 7 and 8.
    due("paired() with one open cell of 0 not open for 2", field(0, 1, 2, 1).paired(), 0);
    due("paired() with one open cell of 0 not open for 2 and less left", field(0, 2, 2, 1).paired(), 0);
    due("paired() with no shared open cell", field(0, 1, 19, 3, 4, 2).paired(), 3);
    due("paired() with no open cell for 0 and nothing left", field(0, 0, 1, 1, 5, 1, 6, 2).paired(), 0);
    due("paired() with no open cell for 0 and 1 left", field(0, 1, 1, 1, 5, 1, 6, 2).paired(), CLASH);
  }

  private static void rulesGoOnToTheEnd() {
    // 4 frees 3, 8 and 9; then 1, 6 and 7 are mined for 2; then nothing is left for 0, so 5 is free.
    due("simple() against the order of the cells", field(0, 2, 2, 3, 4, 0).simple(), 7);
    due("simple() in the order of the cells", field(0, 0, 2, 3, 4, 2).simple(), 7);
    due("simple() with a clash at the end, against the order", field(0, 1, 2, 3, 4, 0).simple(), CLASH);
    due("simple() with a clash at the end, in the order", field(0, 0, 2, 3, 4, 1).simple(), CLASH);
    due("simple() in eight steps", field(1, 2, 4, 1, 5, 1, 7, 3, 11, 2, 15, 1, 17, 2, 18, 2, 19, 2).simple(), 11);
    // Rule 2 frees 2 and 7; then rule 1 has only 4, 8 and 9 open for 3.
    due("simple() before rule 2 helps rule 1", field(0, 1, 1, 1, 3, 3).simple(), 0);
    due("paired() where rule 2 helps rule 1", field(0, 1, 1, 1, 3, 3).paired(), 5);
    due("paired() where rule 2 leads rule 1 to a clash", field(0, 1, 1, 1, 3, 4).paired(), CLASH);
    due("simple() where only rule 2 leads to a clash", field(0, 1, 1, 1, 3, 4).simple(), 0);
  }

  private static void rule2ClashesOnlyWhereItIsApplied() {
    int[][] clues = {{2, 1}, {2, 6}, {3, 1}, {1, 5}};
    for (int[] both : clues) {
      MineReasoner x = sideBySide(both[0], both[1]);
      due("simple() before paired()", x.simple(), 0);
      due("paired()", x.paired(), CLASH);
      due("simple() after paired()", x.simple(), 0);
      due("decided(0)", x.decided(0), CLASH);
      due("simple() after decided(0)", x.simple(), 0);
      due("layouts()", x.layouts(), 0);
    }
  }

  private static final int[][] FIELDS = {
      {0, 2, 2, 3, 4, 0}, {0, 1, 2, 3, 4, 0}, {10, 2, 11, 2}, {10, 2, 11, 5}, {10, 2, 11, 1}, {10, 2, 11, 6}, {0, 1, 1, 1, 3, 3},
      {0, 1, 1, 1, 3, 4}, {1, 2, 4, 1, 5, 1, 7, 3, 11, 2, 15, 1, 17, 2, 18, 2, 19, 2}, {0, 2, 2, 2, 7, 3, 9, 2, 10, 2, 13, 2, 14, 1, 17, 3}};
  private static final int[] SIMPLE = {7, CLASH, 0, 0, 0, 0, 0, 0, 11, 0};
  private static final int[] PAIRED = {7, CLASH, 3, 3, CLASH, CLASH, 5, CLASH, 11, 12};

  /** The field turned over: left to right if the first bit is set, top to bottom if the second. */
  private static MineReasoner turned(int[] told, int how, boolean backwards) {
    MineReasoner x = new MineReasoner();
    for (int i = 0; i < told.length; i += 2) {
      int at = backwards ? told.length - 2 - i : i;
      int r = told[at] / 5;
      int k = told[at] % 5;
      x.show(5 * ((how & 2) != 0 ? 3 - r : r) + ((how & 1) != 0 ? 4 - k : k), told[at + 1]);
    }
    return x;
  }

  private static void orderNeverMatters() {
    for (int i = 0; i < FIELDS.length; i++) {
      for (int how = 0; how < 8; how++) {
        MineReasoner x = turned(FIELDS[i], how, how >= 4);
        due("simple() of field " + i + " turned " + how, x.simple(), SIMPLE[i]);
        due("paired() of field " + i + " turned " + how, x.paired(), PAIRED[i]);
      }
    }
  }

  // Terms: refused calls

  private static MineReasoner sample(int which) {
    MineReasoner x = new MineReasoner();
    if (which == 1) {
      x = field(0, 1, 6, 2, 13, 4);
      x.total(9);
    } else if (which == 2) {
      x = field(0, 4, 9, 0);
    } else if (which == 3) {
      x = allShown(0);
    } else if (which == 4) {
      x = field(10, 2, 11, 1);
      x.total(0);
    } else if (which == 5) {
      x = allShown(8);
      x.total(20);
    }
    return x;
  }

  private static final int SAMPLES = 6;

  private static void noCellIsBadArg() {
    for (int which = 0; which < SAMPLES; which++) {
      for (int c : NO_CELLS) {
        MineReasoner x = sample(which);
        String where = " on field " + which;
        due("show(" + c + ", 0)" + where, x.show(c, 0), BAD_ARG);
        due("show(" + c + ", 8)" + where, x.show(c, 8), BAD_ARG);
        due("show(" + c + ", 9)" + where, x.show(c, 9), BAD_ARG);
        due("cover(" + c + ")" + where, x.cover(c), BAD_ARG);
        due("clue(" + c + ")" + where, x.clue(c), BAD_ARG);
        due("groupOf(" + c + ")" + where, x.groupOf(c), BAD_ARG);
        due("mined(" + c + ")" + where, x.mined(c), BAD_ARG);
        due("clues(" + c + ")" + where, x.clues(c), BAD_ARG);
        due("decided(" + c + ")" + where, x.decided(c), BAD_ARG);
      }
    }
  }

  private static void firstAndLastCellAreCells() {
    for (int c : new int[] {0, 19}) {
      MineReasoner x = new MineReasoner();
      due("clue(" + c + ")", x.clue(c), NONE);
      due("cover(" + c + ")", x.cover(c), NONE);
      due("groupOf(" + c + ")", x.groupOf(c), 0);
      due("mined(" + c + ")", x.mined(c), 1 << 19);
      due("clues(" + c + ")", x.clues(c), 15);
      due("decided(" + c + ")", x.decided(c), NONE);
      due("show(" + c + ", 3)", x.show(c, 3), NONE);
      due("clue(" + c + ")", x.clue(c), 3);
      due("sure()", x.sure(), set(NEAR[c]));
    }
  }

  private static void askAll(MineReasoner x, int n) {
    x.clue(n);
    x.groups();
    x.groupOf(n);
    x.layouts();
    x.mined(n);
    x.free();
    x.sure();
    x.best();
    x.clues(n);
    x.withMines(n);
    x.simple();
    x.paired();
    x.decided(n);
  }

  /** That a call threw is told by the one who runs the test. */
  private static void noCallThrows() {
    int[] numbers = {Integer.MIN_VALUE, -65536, -33, -32, -3, -2, -1, 0, 8, 9, 19, 20, 21, 31, 32, 33, 65536, Integer.MAX_VALUE};
    for (int which = 0; which < SAMPLES; which++) {
      for (int n : numbers) {
        MineReasoner x = sample(which);
        askAll(x, n);
        for (int m : numbers) x.show(n, m);
        askAll(x, n);
        x.total(n);
        askAll(x, n);
        x.cover(n);
        askAll(x, n);
      }
    }
  }

  /** The clues and the total, and then the answers to all other questions, with the total and without. */
  private static int[] answers(MineReasoner x) {
    int[] all = new int[130];
    int at = 0;
    for (int c = 0; c < 20; c++) all[at++] = x.clue(c);
    int total = x.total(-1);
    all[at++] = total;
    all[at++] = x.layouts();
    x.total(total);
    for (int c = 0; c < 20; c++) {
      all[at++] = x.groupOf(c);
      all[at++] = x.mined(c);
      all[at++] = x.clues(c);
      all[at++] = x.decided(c);
    }
    for (int n = 0; n <= 20; n++) all[at++] = x.withMines(n);
    all[at++] = x.groups();
    all[at++] = x.layouts();
    all[at++] = x.free();
    all[at++] = x.sure();
    all[at++] = x.best();
    all[at++] = x.simple();
    all[at++] = x.paired();
    return all;
  }

  private static void changesNothing(String call, int code, int which, ToIntFunction<MineReasoner> refused) {
    MineReasoner x = sample(which);
    x.layouts();
    due(call + " on field " + which, refused.applyAsInt(x), code);
    int[] got = answers(x);
    int[] want = answers(sample(which));
    for (int i = 0; i < want.length; i++) due("question " + i + " after " + call + " on field " + which, got[i], want[i]);
  }

  private static void refusedCellsChangeNothing() {
    for (int which = 0; which < SAMPLES; which++) {
      for (int c : NO_CELLS) {
        changesNothing("show(" + c + ", 3)", BAD_ARG, which, x -> x.show(c, 3));
        changesNothing("show(" + c + ", 9)", BAD_ARG, which, x -> x.show(c, 9));
        changesNothing("cover(" + c + ")", BAD_ARG, which, x -> x.cover(c));
        changesNothing("clue(" + c + ")", BAD_ARG, which, x -> x.clue(c));
        changesNothing("groupOf(" + c + ")", BAD_ARG, which, x -> x.groupOf(c));
        changesNothing("mined(" + c + ")", BAD_ARG, which, x -> x.mined(c));
        changesNothing("clues(" + c + ")", BAD_ARG, which, x -> x.clues(c));
        changesNothing("decided(" + c + ")", BAD_ARG, which, x -> x.decided(c));
      }
    }
  }

  private static void refusedCluesChangeNothing() {
    for (int which = 0; which < SAMPLES; which++) {
      for (int n : NO_CLUES) {
        for (int c : new int[] {0, 6, 12, 19}) changesNothing("show(" + c + ", " + n + ")", BAD_ARG, which, x -> x.show(c, n));
      }
    }
  }

  private static void refusedTotalsChangeNothing() {
    for (int which = 0; which < SAMPLES; which++) {
      for (int n : NO_TOTALS) changesNothing("total(" + n + ")", BAD_ARG, which, x -> x.total(n));
    }
  }

  private static void otherCodesChangeNothing() {
    changesNothing("cover(7)", NONE, 0, x -> x.cover(7));
    changesNothing("cover(7)", NONE, 1, x -> x.cover(7));
    changesNothing("clue(7)", NONE, 1, x -> x.clue(7));
    changesNothing("best()", NONE, 2, MineReasoner::best);
    changesNothing("best()", NONE, 3, MineReasoner::best);
    changesNothing("best()", NONE, 4, MineReasoner::best);
    changesNothing("best()", NONE, 5, MineReasoner::best);
    changesNothing("simple()", CLASH, 2, MineReasoner::simple);
    changesNothing("simple()", CLASH, 5, MineReasoner::simple);
    changesNothing("paired()", CLASH, 4, MineReasoner::paired);
    changesNothing("decided(0)", CLASH, 4, x -> x.decided(0));
    changesNothing("decided(0)", CLASH, 5, x -> x.decided(0));
    changesNothing("decided(0)", NONE, 3, x -> x.decided(0));
  }

  private static void testTheFieldAndLayouts() {
    test("An object is used for at most 512 calls after it has been made", TermsTest::the512thCall);
    test("BAD_ARG = -1: An argument is out of its range", TermsTest::badArg);
    test("NONE = -2: There is no such thing", TermsTest::none);
    test("CLASH = -3: Rules clash", TermsTest::clash);
    test("cell 5 r + c stands in row r (0 to 3) and column c (0 to 4)", TermsTest::rowsAndColumns);
    test("Two different cells are NEIGHBOURS if their rows and their columns differ by at most 1", TermsTest::neighbours);
    test("... differ by at most 1, with no step over the ends of rows and columns", TermsTest::noNeighboursOverTheEnds);
    test("a shown cell has a CLUE, a number from 0 to 8", TermsTest::clueFrom0To8);
    test("There is a TOTAL, 0 to 20, or none", TermsTest::totalFrom0To20OrNone);
    test("A LAYOUT is a set of covered cells", TermsTest::layoutsAreOfCoveredCells);
    test("... such that each shown cell has as many neighbours with mines as its clue says", TermsTest::layoutsFitEachClue);
    test("... and, if there is a total, there are as many mines as it says", TermsTest::layoutsFitTheTotal);
    test("Covered cells that are neighbours of some shown cell are at the EDGE", TermsTest::edge);
    test("Two of them are in the same GROUP if both are neighbours of the same shown cell, or ...", TermsTest::sameGroup);
  }

  private static void testTheRules() {
    test("RULES decide covered cells, to be mined or to be free", TermsTest::rulesDecideCoveredCells);
    test("what is decided stays (OPEN cells, what is LEFT)", TermsTest::decidedStays);
    test("If for a shown cell what is left is below 0, this is a CLASH", TermsTest::clashBelow0);
    test("If ... above the number of its open cells, this is a CLASH", TermsTest::clashAboveOpen);
    test("Rule 1: if nothing is left its open cells are free", TermsTest::rule1NothingLeft);
    test("Rule 1: if as many are left as it has open cells, these are mined", TermsTest::rule1AllLeft);
    test("Rule 2: such that all open cells of a are open cells of b", TermsTest::rule2OnlyIfAllOpenCellsAreShared);
    test("Rule 2: if for a and b the same is left, the other open cells of b are free", TermsTest::rule2SameLeft);
    test("Rule 2: if for b as many more are left as it has other open cells, these are mined", TermsTest::rule2AsManyMoreAsOthers);
    test("Rule 2: if fewer are left for b than for a, this is a CLASH", TermsTest::rule2FewerLeft);
    test("Rule 2: or more by more than b has other open cells, this is a CLASH, too", TermsTest::rule2TooManyMoreLeft);
    test("Rules are applied until they decide nothing further, or there is a clash", TermsTest::rulesGoOnToTheEnd);
    test("(that of rule 2 counts only where rule 2 is applied)", TermsTest::rule2ClashesOnlyWhereItIsApplied);
    test("the order never matters", TermsTest::orderNeverMatters);
  }

  private static void testRefusedCalls() {
    test("In all calls with a cell, one that is not 0 to 19 answers BAD_ARG before anything else", TermsTest::noCellIsBadArg);
    test("... not 0 to 19: the first and the last are cells", TermsTest::firstAndLastCellAreCells);
    test("No call ever throws", TermsTest::noCallThrows);
    test("A refused call changes nothing: no cell", TermsTest::refusedCellsChangeNothing);
    test("A refused call changes nothing: no clue", TermsTest::refusedCluesChangeNothing);
    test("A refused call changes nothing: no total", TermsTest::refusedTotalsChangeNothing);
    test("A refused call changes nothing: NONE and CLASH", TermsTest::otherCodesChangeNothing);
  }

  public static void main(String[] args) {
    testTheFieldAndLayouts();
    testTheRules();
    testRefusedCalls();
    System.out.println(wrong == 0 ? tests + " tests passed" : wrong + " answers are not as due");
    if (wrong != 0) System.exit(1);
  }
}
