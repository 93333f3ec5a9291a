/**
 * One test for each sentence of promises 1 to 18 that names a boundary case; those of "Terms" are in TermsTest.
 * A failure tells the promise and the sentence. No object gets more than 512 calls.
 */
public final class BoundariesTest {
  private static final int BAD_ARG = -1;
  private static final int NONE = -2;
  private static final int CLASH = -3;
  private static final int CELLS = 20;
  private static final int ALL = (1 << CELLS) - 1;

  /** Just outside, and numbers that would be in the range if some of their bits were dropped. */
  private static final int[] NO_CLUES = {-1, -2, -3, -8, 9, 10, 16, 20, 32, 256, 65536, 65544,
      Integer.MIN_VALUE, Integer.MIN_VALUE + 1, Integer.MAX_VALUE};
  private static final int[] NO_TOTALS = {-2, -3, -20, 21, 22, 32, 256, 65536, 65556,
      Integer.MIN_VALUE, Integer.MIN_VALUE + 1, Integer.MAX_VALUE};
  private static final int[] NO_CELLS = {-1, -2, -20, 20, 21, 32, 51, 256, 65536, Integer.MIN_VALUE, Integer.MAX_VALUE};

  private static String sentence = "";
  private static int tests = 0;
  private static int wrong = 0;

  private static void due(String call, int got, int want) {
    if (got == want) return;
    wrong++;
    System.out.println(sentence + ": " + call + " answered " + got + ", due is " + want);
  }

  private static void test(int promise, String told, Runnable body) {
    sentence = "promise " + promise + ", " + told;
    tests++;
    try {
      body.run();
    } catch (RuntimeException | Error e) {
      wrong++;
      System.out.println(sentence + ": a call threw " + e);
    }
  }

  /** An object with these cells shown, given as cell, clue, cell, clue and so on. */
  private static MineReasoner field(int... cellsAndClues) {
    MineReasoner x = new MineReasoner();
    for (int i = 0; i < cellsAndClues.length; i += 2) x.show(cellsAndClues[i], cellsAndClues[i + 1]);
    return x;
  }

  private static MineReasoner withTotal(int total, int... cellsAndClues) {
    MineReasoner x = field(cellsAndClues);
    x.total(total);
    return x;
  }

  private static MineReasoner allShown(int clue) {
    MineReasoner x = new MineReasoner();
    for (int c = 0; c < CELLS; c++) x.show(c, clue);
    return x;
  }

  /** All shown but 12, which is mined or free as told by the clues around it. */
  private static MineReasoner only12Covered(int mines) {
    MineReasoner x = allShown(0);
    x.cover(12);
    for (int c : new int[] {6, 7, 8, 11, 13, 16, 17, 18}) x.show(c, mines);
    return x;
  }

  /** All shown but 0, which is mined or free. */
  private static MineReasoner only0Covered(int mines) {
    MineReasoner x = allShown(0);
    x.cover(0);
    for (int c : new int[] {1, 5, 6}) x.show(c, mines);
    return x;
  }

  /** All shown but 18 and 19; 12 and 17 see 18 alone, 13 and 14 see both. */
  private static MineReasoner only18And19Covered(int minesIn18, int minesIn19) {
    MineReasoner x = allShown(0);
    x.cover(18);
    x.cover(19);
    for (int c : new int[] {12, 17}) x.show(c, minesIn18);
    for (int c : new int[] {13, 14}) x.show(c, minesIn18 + minesIn19);
    return x;
  }

  /** Four shown cells that see all others: 1 and 3 five each, 11 and 13 eight each. */
  private static MineReasoner allSeen(int clueAbove, int clueBelow) {
    return field(1, clueAbove, 3, clueAbove, 11, clueBelow, 13, clueBelow);
  }

  private static final int SEEN_BY_FOUR = ALL & ~(1 << 1 | 1 << 3 | 1 << 11 | 1 << 13);

  private static int set(int... cells) {
    int sum = 0;
    for (int c : cells) sum |= 1 << c;
    return sum;
  }

  private static int choose(int n, int k) {
    if (k < 0 || k > n) return 0;
    long ways = 1;
    for (int i = 0; i < k; i++) ways = ways * (n - i) / (i + 1);
    return (int) ways;
  }

  // Promise 1

  private static void newHasAllCovered() {
    MineReasoner x = new MineReasoner();
    for (int c = 0; c < CELLS; c++) {
      due("clue(" + c + ")", x.clue(c), NONE);
      due("groupOf(" + c + ")", x.groupOf(c), 0);
      due("mined(" + c + ")", x.mined(c), 1 << 19);
      due("decided(" + c + ")", x.decided(c), NONE);
    }
    due("groups()", x.groups(), 0);
    due("layouts()", x.layouts(), 1 << 20);
    due("best()", x.best(), 0);
    due("free()", x.free(), 0);
    due("sure()", x.sure(), 0);
    due("simple()", x.simple(), 0);
    due("paired()", x.paired(), 0);
    for (int c = 0; c < CELLS; c++) due("cover(" + c + ")", x.cover(c), NONE);
    for (int c = 0; c < CELLS; c++) due("show(" + c + ", 0)", x.show(c, 0), NONE);
  }

  private static void newHasNoTotal() {
    for (int n = -1; n <= CELLS; n++) due("total(" + n + ")", new MineReasoner().total(n), -1);
    MineReasoner x = new MineReasoner();
    for (int n = 0; n <= CELLS; n++) due("withMines(" + n + ")", x.withMines(n), choose(CELLS, n));
  }

  private static void newAfterOthersWereUsed() {
    MineReasoner used = allShown(8);
    used.total(20);
    used.layouts();
    used.paired();
    MineReasoner x = new MineReasoner();
    for (int c = 0; c < CELLS; c++) due("clue(" + c + ")", x.clue(c), NONE);
    due("layouts()", x.layouts(), 1 << 20);
    due("paired()", x.paired(), 0);
    due("total(-1)", x.total(-1), -1);
    due("clue(19) of the one before", used.clue(19), 8);
    due("total(-1) of the one before", used.total(-1), 20);
  }

  // Promise 2

  private static void showShows() {
    MineReasoner x = new MineReasoner();
    for (int c = 0; c < CELLS; c++) {
      due("show(" + c + ", 0)", x.show(c, 0), NONE);
      due("clue(" + c + ")", x.clue(c), 0);
      due("mined(" + c + ")", x.mined(c), 0);
      due("clues(" + c + ")", x.clues(c), 0);
    }
    due("layouts() with the last cell shown", x.layouts(), 1);
    due("best() with the last cell shown", x.best(), NONE);
    for (int clue = 0; clue <= 8; clue++) {
      MineReasoner y = new MineReasoner();
      y.show(0, clue);
      y.show(19, clue);
      due("clue(0)", y.clue(0), clue);
      due("clue(19)", y.clue(19), clue);
      due("clue(1)", y.clue(1), NONE);
      due("clue(18)", y.clue(18), NONE);
      due("layouts()", y.layouts(), choose(3, clue) * choose(3, clue) << 12);
    }
  }

  private static void showRefusesNoClue() {
    for (int clue : NO_CLUES) {
      MineReasoner x = field(0, 0, 19, 8);
      due("show(0, " + clue + ")", x.show(0, clue), BAD_ARG);
      due("clue(0), still", x.clue(0), 0);
      due("show(19, " + clue + ")", x.show(19, clue), BAD_ARG);
      due("clue(19), still", x.clue(19), 8);
      due("show(1, " + clue + ")", x.show(1, clue), BAD_ARG);
      due("clue(1), still covered", x.clue(1), NONE);
      due("groupOf(1), still at the edge", x.groupOf(1), 3);
    }
    for (int clue : new int[] {0, 8}) due("show(7, " + clue + ")", new MineReasoner().show(7, clue), NONE);
  }

  private static void showAnswersTheClueBefore() {
    for (int before = 0; before <= 8; before++) {
      for (int clue = 0; clue <= 8; clue++) {
        MineReasoner x = new MineReasoner();
        due("show(5, " + before + ")", x.show(5, before), NONE);
        due("show(5, " + clue + ")", x.show(5, clue), before);
        due("show(5, 4)", x.show(5, 4), clue);
        due("cover(5)", x.cover(5), 4);
        due("show(5, " + clue + ") after cover", x.show(5, clue), NONE);
      }
    }
  }

  // Promise 3

  private static void coverCovers() {
    MineReasoner x = allShown(0);
    for (int c = 0; c < CELLS; c++) {
      due("cover(" + c + ")", x.cover(c), 0);
      due("clue(" + c + ")", x.clue(c), NONE);
    }
    due("layouts() with the last cell covered", x.layouts(), 1 << 20);
    due("groups() with the last cell covered", x.groups(), 0);
    due("simple() with the last cell covered", x.simple(), 0);
    MineReasoner y = field(0, 4, 1, 1);
    due("layouts() before", y.layouts(), 0);
    y.cover(0);
    due("layouts() after", y.layouts(), 5 << 14);
    due("mined(0) after", y.mined(0), 1 << 14);
    due("clue(1) after", y.clue(1), 1);
  }

  private static void coverOfACovered() {
    for (int c = 0; c < CELLS; c++) {
      MineReasoner x = new MineReasoner();
      due("cover(" + c + ") of a new object", x.cover(c), NONE);
      x.show(c, 2);
      due("cover(" + c + ")", x.cover(c), 2);
      due("cover(" + c + ") again", x.cover(c), NONE);
      due("layouts()", x.layouts(), 1 << 20);
    }
  }

  private static void coverAnswersTheClue() {
    for (int clue = 0; clue <= 8; clue++) {
      MineReasoner x = field(0, clue, 19, 8 - clue, 7, 8, 7, clue);
      due("cover(0)", x.cover(0), clue);
      due("cover(19)", x.cover(19), 8 - clue);
      due("cover(7) after two shows", x.cover(7), clue);
    }
  }

  // Promise 4

  private static void totalBecomesN() {
    MineReasoner x = new MineReasoner();
    x.total(0);
    due("layouts() with total 0", x.layouts(), 1);
    due("free() with total 0", x.free(), ALL);
    x.total(20);
    due("layouts() with total 20", x.layouts(), 1);
    due("sure() with total 20", x.sure(), ALL);
    x.total(10);
    due("layouts() with total 10", x.layouts(), 184756);
    x.show(0, 8);
    x.cover(0);
    due("layouts() with total 10, after a cell was shown and covered", x.layouts(), 184756);
    due("total(10)", x.total(10), 10);
  }

  private static void totalNone() {
    MineReasoner x = withTotal(0);
    due("total(-1)", x.total(-1), 0);
    due("layouts() with none", x.layouts(), 1 << 20);
    due("withMines(20) with none", x.withMines(20), 1);
    due("total(-1) again", x.total(-1), -1);
    due("total(0) after none", x.total(0), -1);
    due("layouts() with total 0", x.layouts(), 1);
  }

  private static void totalRefusesOthers() {
    for (int n : NO_TOTALS) {
      MineReasoner x = new MineReasoner();
      due("total(" + n + ") with none before", x.total(n), BAD_ARG);
      due("layouts(), still with none", x.layouts(), 1 << 20);
      x.total(3);
      due("total(" + n + ")", x.total(n), BAD_ARG);
      due("layouts(), still with 3", x.layouts(), 1140);
      due("total(20)", x.total(20), 3);
      due("total(" + n + ")", x.total(n), BAD_ARG);
      due("total(-1)", x.total(-1), 20);
    }
  }

  private static void totalAnswersTheOneBefore() {
    MineReasoner x = new MineReasoner();
    int before = -1;
    for (int n = 20; n >= -1; n--) {
      due("total(" + n + ")", x.total(n), before);
      before = n;
    }
    MineReasoner full = allShown(0);
    due("total(20) with no covered cell", full.total(20), -1);
    due("total(0) with no covered cell", full.total(0), 20);
    due("layouts()", full.layouts(), 1);
  }

  // Promise 5

  private static void clueOfAShown() {
    MineReasoner x = new MineReasoner();
    for (int c = 0; c < CELLS; c++) x.show(c, c % 9);
    for (int c = 0; c < CELLS; c++) due("clue(" + c + ")", x.clue(c), c % 9);
    due("clue(9), the least", x.clue(9), 0);
    due("clue(8), the greatest", x.clue(8), 8);
  }

  private static void clueOfACovered() {
    MineReasoner x = allShown(0);
    for (int c = 0; c < CELLS; c++) x.cover(c);
    for (int c = 0; c < CELLS; c++) due("clue(" + c + ") after cover", x.clue(c), NONE);
    MineReasoner y = allShown(5);
    y.cover(0);
    y.cover(19);
    due("clue(0)", y.clue(0), NONE);
    due("clue(1)", y.clue(1), 5);
    due("clue(18)", y.clue(18), 5);
    due("clue(19)", y.clue(19), NONE);
  }

  // Promises 6 and 7

  private static void groupsFromNoneToFour() {
    due("groups() with no shown cell", new MineReasoner().groups(), 0);
    due("groups() with no covered cell", allShown(0).groups(), 0);
    due("groups() with one covered cell", only12Covered(0).groups(), 1);
    due("groups() with one shown cell", field(19, 0).groups(), 1);
    due("groups() with all covered cells in one", allSeen(1, 1).groups(), 1);
    due("groups() with two corners", field(0, 0, 19, 0).groups(), 2);
    due("groups() with four corners", field(0, 0, 4, 0, 15, 0, 19, 0).groups(), 4);
    due("groups() with two corners joined", field(0, 0, 4, 0, 2, 0).groups(), 1);
    due("groups() without layouts", field(0, 8, 19, 8).groups(), 2);
    due("groups() without layouts by the total", withTotal(0, 0, 1, 19, 1).groups(), 2);
  }

  private static void groupOfFrom1To16() {
    due("groupOf(12) alone", only12Covered(0).groupOf(12), 1);
    due("groupOf(18) of two", only18And19Covered(0, 0).groupOf(18), 2);
    due("groupOf(19) of two", only18And19Covered(0, 0).groupOf(19), 2);
    due("groupOf(1) at a corner", field(0, 8).groupOf(1), 3);
    due("groupOf(18) around the middle", field(12, 0).groupOf(18), 8);
    MineReasoner x = allSeen(0, 8);
    for (int c = 0; c < CELLS; c++) due("groupOf(" + c + ") of 16", x.groupOf(c), (SEEN_BY_FOUR >> c & 1) != 0 ? 16 : 0);
  }

  private static void groupOfIsNone() {
    MineReasoner none = new MineReasoner();
    MineReasoner full = allShown(0);
    MineReasoner corner = field(0, 1);
    for (int c = 0; c < CELLS; c++) {
      due("groupOf(" + c + ") with no shown cell", none.groupOf(c), 0);
      due("groupOf(" + c + ") with no covered cell", full.groupOf(c), 0);
      due("groupOf(" + c + ") with 0 shown", corner.groupOf(c), c == 1 || c == 5 || c == 6 ? 3 : 0);
    }
    due("groupOf(11), shown beside a covered cell", only12Covered(1).groupOf(11), 0);
  }

  // Promises 8 and 9

  private static void layoutsFromNoneToAll() {
    due("layouts() with no shown cell and no total", new MineReasoner().layouts(), 1 << 20);
    due("layouts() with no shown cell and total 0", withTotal(0).layouts(), 1);
    due("layouts() with no shown cell and total 20", withTotal(20).layouts(), 1);
    due("layouts() with no covered cell, clues 0", allShown(0).layouts(), 1);
    due("layouts() with no covered cell, clues 1", allShown(1).layouts(), 0);
    due("layouts() with no covered cell, clues 8", allShown(8).layouts(), 0);
    due("layouts() with all told free", allSeen(0, 0).layouts(), 1);
    due("layouts() with all told mined", allSeen(5, 8).layouts(), 1);
    due("layouts() with total 16 for 16 told mined", withTotal(16, 1, 5, 3, 5, 11, 8, 13, 8).layouts(), 1);
    due("layouts() with total 15 for 16 told mined", withTotal(15, 1, 5, 3, 5, 11, 8, 13, 8).layouts(), 0);
    due("layouts() with total 17 for 16 told mined", withTotal(17, 1, 5, 3, 5, 11, 8, 13, 8).layouts(), 0);
    due("layouts() with a clue above its cells", field(19, 4).layouts(), 0);
    due("layouts() with total 19 for 19 covered cells", withTotal(19, 19, 3).layouts(), 1);
    due("layouts() with total 20 for 19 covered cells", withTotal(20, 19, 3).layouts(), 0);
  }

  private static void minedFromNoneToAll() {
    MineReasoner x = field(0, 3, 19, 0);
    due("mined(1), in each", x.mined(1), 1 << 12);
    due("mined(18), in none", x.mined(18), 0);
    due("mined(2), in half", x.mined(2), 1 << 11);
    due("mined(0), shown", x.mined(0), 0);
    due("mined(19), shown", x.mined(19), 0);
    due("mined(1) without layouts", field(0, 4).mined(1), 0);
    due("mined(12) without layouts, far off", field(0, 4).mined(12), 0);
    due("mined(12) alone, mined", only12Covered(1).mined(12), 1);
    due("mined(12) alone, free", only12Covered(0).mined(12), 0);
    due("mined(11) beside it", only12Covered(1).mined(11), 0);
    MineReasoner full = allShown(0);
    for (int c = 0; c < CELLS; c++) {
      due("mined(" + c + ") with no covered cell", full.mined(c), 0);
      due("mined(" + c + ") with total 20", withTotal(20).mined(c), 1);
      due("mined(" + c + ") with total 0", withTotal(0).mined(c), 0);
      due("mined(" + c + ") with total 1", withTotal(1).mined(c), 1);
    }
  }

  // Promises 10 and 11

  private static void freeFromNoneToAll() {
    due("free() with no shown cell", new MineReasoner().free(), 0);
    due("free() with no shown cell and total 0", withTotal(0).free(), ALL);
    due("free() with no shown cell and total 1", withTotal(1).free(), 0);
    due("free() with all told free", allSeen(0, 0).free(), SEEN_BY_FOUR);
    due("free() with all told mined", allSeen(5, 8).free(), 0);
    due("free() with 0:0, shown cells left out", field(0, 0).free(), set(1, 5, 6));
    due("free() with 19:0", field(19, 0).free(), set(13, 14, 18));
    due("free() of the first cell alone", only0Covered(0).free(), set(0));
    due("free() of the last cell alone", only18And19Covered(1, 0).free(), set(19));
    due("free() with no covered cell", allShown(0).free(), 0);
  }

  private static void freeWithoutLayouts() {
    due("free() with a clue too large", field(0, 4).free(), 0);
    due("free() with a clue too large and one of 0", field(0, 4, 19, 0).free(), 0);
    due("free() with no covered cell and no layout", allShown(1).free(), 0);
    due("free() with a total too large", withTotal(20, 0, 0).free(), 0);
    due("free() with a total too small", withTotal(0, 0, 1).free(), 0);
    MineReasoner x = field(0, 0);
    due("free() with layouts", x.free(), set(1, 5, 6));
    x.total(17);
    due("free() with layouts no more", x.free(), 0);
    x.total(16);
    due("free() with one layout again", x.free(), set(1, 5, 6));
  }

  private static void sureFromNoneToAll() {
    due("sure() with no shown cell", new MineReasoner().sure(), 0);
    due("sure() with no shown cell and total 20", withTotal(20).sure(), ALL);
    due("sure() with no shown cell and total 19", withTotal(19).sure(), 0);
    due("sure() with all told mined", allSeen(5, 8).sure(), SEEN_BY_FOUR);
    due("sure() with all told free", allSeen(0, 0).sure(), 0);
    due("sure() with 0:3, shown cells left out", field(0, 3).sure(), set(1, 5, 6));
    due("sure() with 19:3", field(19, 3).sure(), set(13, 14, 18));
    due("sure() of the first cell alone", only0Covered(1).sure(), set(0));
    due("sure() of the last cell alone", only18And19Covered(0, 1).sure(), set(19));
    due("sure() with no covered cell", allShown(0).sure(), 0);
  }

  private static void sureWithoutLayouts() {
    due("sure() with a clue too large", field(0, 4).sure(), 0);
    due("sure() with a clue too large and one of all", field(0, 4, 19, 3).sure(), 0);
    due("sure() with no covered cell and no layout", allShown(1).sure(), 0);
    due("sure() with a total too small", withTotal(2, 0, 3).sure(), 0);
    due("sure() with a total too large", withTotal(20, 0, 3).sure(), 0);
    MineReasoner x = field(0, 3);
    due("sure() with layouts", x.sure(), set(1, 5, 6));
    x.total(2);
    due("sure() with layouts no more", x.sure(), 0);
    x.total(3);
    due("sure() with one layout again", x.sure(), set(1, 5, 6));
  }

  // Promise 12

  private static void bestIsTheLeastOfSeveral() {
    due("best() with all alike", new MineReasoner().best(), 0);
    due("best() with all free", withTotal(0).best(), 0);
    due("best() with all mined", withTotal(20).best(), 0);
    due("best() with the first one shown", field(0, 0).best(), 1);
    due("best() with three alike at the last corner", field(19, 1).best(), 13);
    due("best() with the edge more likely", field(0, 2).best(), 2);
    due("best() with the edge as likely as the rest, the least at the edge", field(6, 4).best(), 0);
    due("best() with the edge as likely as the rest, the least not there", field(13, 4).best(), 0);
    due("best() with the edge less likely", field(13, 3).best(), 7);
    due("best() of 18 and 19, both free", only18And19Covered(0, 0).best(), 18);
    due("best() of 18 and 19, both mined", only18And19Covered(1, 1).best(), 18);
    due("best() of 18 and 19, the last one free", only18And19Covered(1, 0).best(), 19);
    due("best() of 18 and 19, the first one free", only18And19Covered(0, 1).best(), 18);
    due("best() with one covered cell, mined in each", only12Covered(1).best(), 12);
    due("best() with one covered cell, free", only12Covered(0).best(), 12);
    due("best() with the one mine near the first cell", withTotal(1, 0, 1).best(), 2);
  }

  private static void bestWithNoCoveredCell() {
    MineReasoner x = allShown(0);
    due("best()", x.best(), NONE);
    due("layouts()", x.layouts(), 1);
    x.total(0);
    due("best() with total 0", x.best(), NONE);
    x.cover(19);
    due("best() with 19 covered", x.best(), 19);
    x.show(19, 0);
    due("best() with 19 shown again", x.best(), NONE);
  }

  private static void bestWithNoLayout() {
    due("best() with a clue too large", field(0, 4).best(), NONE);
    due("best() with a total too large", withTotal(20, 0, 3).best(), NONE);
    due("best() with a total too small", withTotal(0, 0, 1).best(), NONE);
    due("best() with neither covered cell nor layout", allShown(8).best(), NONE);
    MineReasoner x = field(0, 4);
    due("best() before", x.best(), NONE);
    x.show(0, 3);
    due("best() after", x.best(), 2);
  }

  // Promise 13

  private static void cluesFromNoneToEight() {
    MineReasoner x = new MineReasoner();
    due("clues(0), at most 3", x.clues(0), 15);
    due("clues(19), at most 3", x.clues(19), 15);
    due("clues(2), at most 5", x.clues(2), 63);
    due("clues(10), at most 5", x.clues(10), 63);
    due("clues(12), at most 8", x.clues(12), 511);
    for (int c = 0; c < CELLS; c++) due("clues(" + c + ") with total 0, asked first", withTotal(0).clues(c), 1);
    due("clues(12) with total 1", withTotal(1).clues(12), 3);
    due("clues(12) with total 8", withTotal(8).clues(12), 511);
    due("clues(12) with total 12", withTotal(12).clues(12), 511 - 1);
    due("clues(12) with total 11", withTotal(11).clues(12), 511);
    due("clues(12) with total 18", withTotal(18).clues(12), 256 + 128);
    due("clues(12) with total 19", withTotal(19).clues(12), 256);
    due("clues(12) alone, free", only12Covered(0).clues(12), 1);
    due("clues(2) with 0:3", field(0, 3).clues(2), set(2, 3, 4, 5));
    due("clues(2) with 0:0", field(0, 0).clues(2), set(0, 1, 2, 3));
  }

  private static void cluesOnlyWithoutItsOwnMine() {
    due("clues(1) mined in each layout", field(0, 3).clues(1), 0);
    due("clues(12) alone, mined", only12Covered(1).clues(12), 0);
    due("clues(12) with total 20", withTotal(20).clues(12), 0);
    due("clues(1) with one mine at 1, 5 or 6", withTotal(1, 0, 1).clues(1), set(1));
    due("clues(7) with one mine at 1, 5 or 6", withTotal(1, 0, 1).clues(7), set(0, 1));
    due("clues(1) with two mines at 1, 5 or 6", withTotal(2, 0, 2).clues(1), set(2));
    due("clues(2) without layouts", field(0, 4).clues(2), 0);
    due("clues(12) without layouts by the total", withTotal(20, 0, 3).clues(12), 0);
  }

  private static void cluesOfAShown() {
    MineReasoner full = allShown(0);
    for (int c = 0; c < CELLS; c++) {
      due("clues(" + c + ") with no covered cell", full.clues(c), 0);
      due("clues(" + c + ") shown alone", field(c, 0).clues(c), 0);
    }
    MineReasoner x = new MineReasoner();
    due("clues(19) before", x.clues(19), 15);
    x.show(19, 2);
    due("clues(19) shown", x.clues(19), 0);
    x.cover(19);
    due("clues(19) covered again", x.clues(19), 15);
  }

  // Promise 14

  private static void withMinesFrom0To20() {
    MineReasoner x = new MineReasoner();
    for (int n = 0; n <= CELLS; n++) due("withMines(" + n + ")", x.withMines(n), choose(20, n));
    MineReasoner y = field(0, 3);
    for (int n = 0; n <= CELLS; n++) due("withMines(" + n + ") with 0:3", y.withMines(n), choose(16, n - 3));
    MineReasoner full = allShown(0);
    for (int n = 0; n <= CELLS; n++) due("withMines(" + n + ") with no covered cell", full.withMines(n), n == 0 ? 1 : 0);
    MineReasoner impossible = field(0, 4);
    for (int n = 0; n <= CELLS; n++) due("withMines(" + n + ") without layouts", impossible.withMines(n), 0);
    MineReasoner mined = allSeen(5, 8);
    for (int n = 0; n <= CELLS; n++) due("withMines(" + n + ") with all told mined", mined.withMines(n), n == 16 ? 1 : 0);
  }

  private static void withMinesOfNoNumberOfMines() {
    for (int n : NO_TOTALS) {
      due("withMines(" + n + ")", new MineReasoner().withMines(n), 0);
      due("withMines(" + n + ") with total 20", withTotal(20).withMines(n), 0);
    }
    due("withMines(-1) with no total", new MineReasoner().withMines(-1), 0);
    due("withMines(-1) with total 0", withTotal(0).withMines(-1), 0);
    due("withMines(-1) with no covered cell", allShown(0).withMines(-1), 0);
    MineReasoner x = new MineReasoner();
    x.withMines(-1);
    x.withMines(0);
    due("layouts() after withMines", x.layouts(), 1 << 20);
    due("total(-1) after withMines", x.total(-1), -1);
  }

  private static void withMinesBesideATotal() {
    for (int total : new int[] {0, 7, 20}) {
      MineReasoner x = withTotal(total);
      for (int n = 0; n <= CELLS; n++) due("withMines(" + n + ") with total " + total, x.withMines(n), n == total ? choose(20, n) : 0);
      due("layouts() with total " + total, x.layouts(), choose(20, total));
    }
  }

  // Promise 15

  private static void simpleFromNoneToAll() {
    due("simple() with no shown cell", new MineReasoner().simple(), 0);
    due("simple() with no shown cell and total 0", withTotal(0).simple(), 0);
    due("simple() with no shown cell and total 20", withTotal(20).simple(), 0);
    due("simple() with no covered cell", allShown(0).simple(), 0);
    due("simple() with one covered cell, free", only12Covered(0).simple(), 1);
    due("simple() with one covered cell, mined", only12Covered(1).simple(), 1);
    due("simple() with all told free", allSeen(0, 0).simple(), 16);
    due("simple() with all told mined", allSeen(5, 8).simple(), 16);
    due("simple() with 18 mined and 19 free", only18And19Covered(1, 0).simple(), 2);
    due("simple() where rule 2 alone decides", field(0, 1, 1, 1).simple(), 0);
  }

  private static void simpleClash() {
    due("simple() with 1 more than open", field(0, 4).simple(), CLASH);
    due("simple() with as many as open", field(0, 3).simple(), 3);
    due("simple() with less than nothing left", field(2, 5, 4, 1).simple(), CLASH);
    due("simple() with nothing left", field(2, 5, 4, 2).simple(), 6);
    due("simple() with no covered cell and clues 1", allShown(1).simple(), CLASH);
    due("simple() with no covered cell and clues 8", allShown(8).simple(), CLASH);
    due("simple() with a clash at the last cell", field(0, 0, 19, 4).simple(), CLASH);
    due("simple() with a clash of rule 2 alone", field(10, 2, 11, 1).simple(), 0);
    due("simple() without layouts by the total alone", withTotal(0, 0, 1).simple(), 0);
    MineReasoner x = field(0, 4);
    due("simple() before", x.simple(), CLASH);
    x.cover(0);
    due("simple() with the clash covered", x.simple(), 0);
  }

  // Promise 16

  private static void pairedFromNoneToAll() {
    due("paired() with no shown cell", new MineReasoner().paired(), 0);
    due("paired() with one shown cell", field(12, 4).paired(), 0);
    due("paired() with no covered cell", allShown(0).paired(), 0);
    due("paired() with one covered cell", only12Covered(1).paired(), 1);
    due("paired() with all told free", allSeen(0, 0).paired(), 16);
    due("paired() with all told mined", allSeen(5, 8).paired(), 16);
    due("paired() where rule 1 alone decides", field(0, 3).paired(), 3);
    due("paired() where rule 2 alone decides free cells", field(0, 1, 1, 1).paired(), 2);
    due("paired() where rule 2 alone decides mined cells", field(0, 1, 1, 3).paired(), 2);
    due("paired() between the two", field(0, 1, 1, 2).paired(), 0);
    due("paired() with a total that tells all", withTotal(20).paired(), 0);
  }

  private static void pairedClash() {
    due("paired() with a clash of rule 1", field(0, 4).paired(), CLASH);
    due("paired() with no covered cell and clues 1", allShown(1).paired(), CLASH);
    due("paired() with 1 less left for the larger", field(10, 2, 11, 1).paired(), CLASH);
    due("paired() with the same left", field(10, 2, 11, 2).paired(), 3);
    due("paired() with as many more left as others", field(10, 2, 11, 5).paired(), 3);
    due("paired() with 1 more than that", field(10, 2, 11, 6).paired(), CLASH);
    due("paired() without layouts by the total alone", withTotal(0, 0, 1, 1, 1).paired(), 2);
    MineReasoner x = field(10, 2, 11, 1);
    due("paired() before", x.paired(), CLASH);
    x.show(11, 2);
    due("paired() with the clash mended", x.paired(), 3);
  }

  // Promise 17

  private static void decidedMinedOrFree() {
    due("decided(1) with 0:3", field(0, 3).decided(1), 1);
    due("decided(1) with 0:0", field(0, 0).decided(1), 0);
    due("decided(18) with 19:3", field(19, 3).decided(18), 1);
    due("decided(18) with 19:0", field(19, 0).decided(18), 0);
    due("decided(0) with 1:5", field(1, 5).decided(0), 1);
    due("decided(19) with 18:0", field(18, 0).decided(19), 0);
    due("decided(12) alone, mined", only12Covered(1).decided(12), 1);
    due("decided(12) alone, free", only12Covered(0).decided(12), 0);
    due("decided(7) by rule 2, free", field(0, 1, 1, 1).decided(7), 0);
    due("decided(7) by rule 2, mined", field(0, 1, 1, 3).decided(7), 1);
  }

  private static void decidedNothing() {
    MineReasoner none = new MineReasoner();
    MineReasoner totalled = withTotal(0);
    MineReasoner one = field(12, 4);
    for (int c = 0; c < CELLS; c++) {
      due("decided(" + c + ") with no shown cell", none.decided(c), NONE);
      due("decided(" + c + ") with total 0", totalled.decided(c), NONE);
      due("decided(" + c + ") with 12:4", one.decided(c), NONE);
    }
    due("decided(7) between the two", field(0, 1, 1, 2).decided(7), NONE);
    due("decided(19) far off", field(0, 3).decided(19), NONE);
  }

  private static void decidedOfAShown() {
    MineReasoner full = allShown(0);
    for (int c = 0; c < CELLS; c++) {
      due("decided(" + c + ") with no covered cell", full.decided(c), NONE);
      due("decided(" + c + ") shown alone", field(c, 0).decided(c), NONE);
    }
    // 1 is shown beside cells that the rules decide.
    due("decided(1) with 0:0", field(0, 0, 1, 1).decided(1), NONE);
    due("decided(5) with 0:0", field(0, 0, 1, 1).decided(5), 0);
    due("decided(1) with 0:2", field(0, 2, 1, 3).decided(1), NONE);
    due("decided(5) with 0:2", field(0, 2, 1, 3).decided(5), 1);
  }

  private static void decidedClash() {
    MineReasoner rule1 = field(0, 4);
    MineReasoner rule2 = field(10, 2, 11, 1);
    MineReasoner full = allShown(1);
    for (int c = 0; c < CELLS; c++) {
      due("decided(" + c + ") with a clash of rule 1", rule1.decided(c), CLASH);
      due("decided(" + c + ") with a clash of rule 2", rule2.decided(c), CLASH);
      due("decided(" + c + ") with a clash and no covered cell", full.decided(c), CLASH);
    }
    due("decided(1) of what was told before the clash", field(0, 0, 19, 4).decided(1), CLASH);
    due("decided(1) without layouts by the total alone", withTotal(0, 0, 3).decided(1), 1);
  }

  // Promise 18

  private static void decidedTestsClashBeforeShown() {
    due("decided(0), shown, with a clash there", field(0, 4).decided(0), CLASH);
    due("decided(19), shown, with a clash elsewhere", field(0, 4, 19, 0).decided(19), CLASH);
    due("decided(10), shown, with a clash of rule 2", field(10, 2, 11, 1).decided(10), CLASH);
    due("decided(0), shown, with no clash", field(0, 3).decided(0), NONE);
  }

  private static void decidedTestsTheCellFirst() {
    for (int c : NO_CELLS) {
      due("decided(" + c + ") with a clash of rule 1", field(0, 4).decided(c), BAD_ARG);
      due("decided(" + c + ") with a clash of rule 2", field(10, 2, 11, 1).decided(c), BAD_ARG);
      due("decided(" + c + ") with a clash and no covered cell", allShown(8).decided(c), BAD_ARG);
      due("decided(" + c + ") with no clash", new MineReasoner().decided(c), BAD_ARG);
    }
  }

  private static void showTestsArgumentsFirst() {
    for (int c : NO_CELLS) {
      for (int clue : new int[] {Integer.MIN_VALUE, -1, 0, 8, 9, Integer.MAX_VALUE}) {
        MineReasoner x = field(0, 1, 19, 2);
        due("show(" + c + ", " + clue + ")", x.show(c, clue), BAD_ARG);
        for (int d = 0; d < CELLS; d++) due("clue(" + d + "), still", x.clue(d), d == 0 ? 1 : d == 19 ? 2 : NONE);
      }
    }
    for (int clue : NO_CLUES) {
      due("show(0, " + clue + ") of a covered cell", new MineReasoner().show(0, clue), BAD_ARG);
      due("show(0, " + clue + ") of a shown cell", field(0, 1).show(0, clue), BAD_ARG);
    }
  }

  private static void showWasDoneIfItAnswersNone() {
    for (int c = 0; c < CELLS; c++) {
      MineReasoner x = new MineReasoner();
      due("show(" + c + ", 1)", x.show(c, 1), NONE);
      due("clue(" + c + ")", x.clue(c), 1);
      due("groups()", x.groups(), 1);
      due("show(" + c + ", 0)", x.show(c, 0), 1);
    }
  }

  private static void testCallsThatChange() {
    test(1, "All cells are covered", BoundariesTest::newHasAllCovered);
    test(1, "no total", BoundariesTest::newHasNoTotal);
    test(1, "A new object, whatever was done to others", BoundariesTest::newAfterOthersWereUsed);
    test(2, "Cell c is shown from now on, with this clue", BoundariesTest::showShows);
    test(2, "BAD_ARG if the clue is not 0 to 8", BoundariesTest::showRefusesNoClue);
    test(2, "Otherwise its clue before, or NONE if it was covered", BoundariesTest::showAnswersTheClueBefore);
    test(3, "Cell c is covered from now on", BoundariesTest::coverCovers);
    test(3, "NONE if it is", BoundariesTest::coverOfACovered);
    test(3, "Otherwise the clue that it had", BoundariesTest::coverAnswersTheClue);
    test(4, "The total becomes n", BoundariesTest::totalBecomesN);
    test(4, "none if n is -1", BoundariesTest::totalNone);
    test(4, "BAD_ARG if n is not -1 to 20", BoundariesTest::totalRefusesOthers);
    test(4, "Otherwise what it was, or -1", BoundariesTest::totalAnswersTheOneBefore);
  }

  private static void testQuestionsOfTheField() {
    test(5, "The clue of cell c", BoundariesTest::clueOfAShown);
    test(5, "NONE if it is covered", BoundariesTest::clueOfACovered);
    test(6, "The number of groups", BoundariesTest::groupsFromNoneToFour);
    test(7, "The number of cells of the group of cell c", BoundariesTest::groupOfFrom1To16);
    test(7, "0 if it is in none", BoundariesTest::groupOfIsNone);
  }

  private static void testQuestionsOfLayouts() {
    test(8, "The number of layouts", BoundariesTest::layoutsFromNoneToAll);
    test(9, "The number of layouts in which cell c has a mine", BoundariesTest::minedFromNoneToAll);
    test(10, "The set of the covered cells that have a mine in no layout", BoundariesTest::freeFromNoneToAll);
    test(10, "0 if there is no layout", BoundariesTest::freeWithoutLayouts);
    test(11, "The set of the covered cells that have a mine in each layout", BoundariesTest::sureFromNoneToAll);
    test(11, "0 if there is no layout", BoundariesTest::sureWithoutLayouts);
    test(12, "The covered cell that has a mine in the fewest layouts, of several the least", BoundariesTest::bestIsTheLeastOfSeveral);
    test(12, "NONE if there is no covered cell", BoundariesTest::bestWithNoCoveredCell);
    test(12, "NONE if there is no layout", BoundariesTest::bestWithNoLayout);
    test(13, "The set of the numbers of neighbours with mines", BoundariesTest::cluesFromNoneToEight);
    test(13, "in layouts in which it has none itself", BoundariesTest::cluesOnlyWithoutItsOwnMine);
    test(13, "0 if c is shown", BoundariesTest::cluesOfAShown);
    test(14, "The number of layouts with n mines", BoundariesTest::withMinesFrom0To20);
    test(14, "... with n that is no number of mines", BoundariesTest::withMinesOfNoNumberOfMines);
    test(14, "... with a total", BoundariesTest::withMinesBesideATotal);
  }

  private static void testQuestionsOfRules() {
    test(15, "The number of cells that rule 1 alone decides", BoundariesTest::simpleFromNoneToAll);
    test(15, "CLASH", BoundariesTest::simpleClash);
    test(16, "The number of cells that both rules decide", BoundariesTest::pairedFromNoneToAll);
    test(16, "CLASH", BoundariesTest::pairedClash);
    test(17, "1 mined, 0 free", BoundariesTest::decidedMinedOrFree);
    test(17, "NONE if nothing", BoundariesTest::decidedNothing);
    test(17, "or it is shown", BoundariesTest::decidedOfAShown);
    test(17, "CLASH", BoundariesTest::decidedClash);
    test(18, "decided: CLASH is tested before the cell being shown", BoundariesTest::decidedTestsClashBeforeShown);
    test(18, "(a cell that is no cell still first)", BoundariesTest::decidedTestsTheCellFirst);
    test(18, "show: BAD_ARG (the cell, then the clue) is tested first", BoundariesTest::showTestsArgumentsFirst);
    test(18, "NONE is an answer of a call that was done", BoundariesTest::showWasDoneIfItAnswersNone);
  }

  public static void main(String[] args) {
    testCallsThatChange();
    testQuestionsOfTheField();
    testQuestionsOfLayouts();
    testQuestionsOfRules();
    System.out.println(wrong == 0 ? tests + " tests passed" : wrong + " answers are not as due");
    if (wrong != 0) System.exit(1);
  }
}
