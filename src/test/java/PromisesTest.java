/** For each promise, answers worked out by hand: ordinary inputs, edges and wrong inputs. */
public final class PromisesTest {
  private static final int BAD_ARG = -1;
  private static final int NONE = -2;
  private static final int CLASH = -3;
  private static final int ALL = (1 << 20) - 1;
  private static final int[] NO_CELLS = {-1, 20, 21, 32, -32, Integer.MIN_VALUE, Integer.MAX_VALUE};

  private static int wrong = 0;
  private static int promise = 0;

  private static void due(String call, int got, int want) {
    if (got != want) { wrong++; System.out.println("promise " + promise + ": " + call + " answered " + got + ", due is " + want); }
  }

  /** An object with these cells shown, given as cell, clue, cell, clue and so on. */
  private static MineReasoner field(int... cellsAndClues) {
    MineReasoner x = new MineReasoner();
    for (int i = 0; i < cellsAndClues.length; i += 2) x.show(cellsAndClues[i], cellsAndClues[i + 1]);
    return x;
  }

  /** All cells shown with this clue. */
  private static MineReasoner allShown(int clue) {
    MineReasoner x = new MineReasoner();
    for (int c = 0; c < 20; c++) x.show(c, clue);
    return x;
  }

  private static int set(int... cells) {
    int sum = 0;
    for (int c : cells) sum |= 1 << c;
    return sum;
  }

  private static void newObject() {
    promise = 1;
    MineReasoner x = new MineReasoner();
    for (int c = 0; c < 20; c++) {
      due("clue(" + c + ")", x.clue(c), NONE);
      due("groupOf(" + c + ")", x.groupOf(c), 0);
      due("decided(" + c + ")", x.decided(c), NONE);
    }
    due("layouts()", x.layouts(), 1 << 20);
    due("total(-1)", x.total(-1), -1);
    MineReasoner other = new MineReasoner();
    x.show(3, 2);
    x.total(4);
    due("clue(3) of another object", other.clue(3), NONE);
    due("total(-1) of another object", other.total(-1), -1);
  }

  private static void show() {
    promise = 2;
    MineReasoner x = new MineReasoner();
    due("show(0, 0)", x.show(0, 0), NONE);
    due("show(19, 8)", x.show(19, 8), NONE);
    due("show(0, 8)", x.show(0, 8), 0);
    due("show(0, 8)", x.show(0, 8), 8);
    due("clue(0)", x.clue(0), 8);
    due("show(0, 9)", x.show(0, 9), BAD_ARG);
    due("show(0, -1)", x.show(0, -1), BAD_ARG);
    due("show(1, 9)", x.show(1, 9), BAD_ARG);
    due("show(1, min)", x.show(1, Integer.MIN_VALUE), BAD_ARG);
    due("show(1, max)", x.show(1, Integer.MAX_VALUE), BAD_ARG);
    due("clue(0)", x.clue(0), 8);
    due("clue(1)", x.clue(1), NONE);
    due("clue(19)", x.clue(19), 8);
  }

  private static void cover() {
    promise = 3;
    MineReasoner x = field(7, 3, 8, 0);
    due("cover(6)", x.cover(6), NONE);
    due("cover(7)", x.cover(7), 3);
    due("cover(7)", x.cover(7), NONE);
    due("cover(8)", x.cover(8), 0);
    due("clue(7)", x.clue(7), NONE);
    due("layouts()", x.layouts(), 1 << 20);
    due("show(7, 1)", x.show(7, 1), NONE);
  }

  private static void total() {
    promise = 4;
    MineReasoner x = new MineReasoner();
    due("total(0)", x.total(0), -1);
    due("total(20)", x.total(20), 0);
    due("total(21)", x.total(21), BAD_ARG);
    due("total(-2)", x.total(-2), BAD_ARG);
    due("total(min)", x.total(Integer.MIN_VALUE), BAD_ARG);
    due("total(max)", x.total(Integer.MAX_VALUE), BAD_ARG);
    due("total(5)", x.total(5), 20);
    due("layouts()", x.layouts(), 15504);
    due("total(-1)", x.total(-1), 5);
    due("layouts()", x.layouts(), 1 << 20);
    due("total(-1)", x.total(-1), -1);
  }

  private static void clue() {
    promise = 5;
    MineReasoner x = new MineReasoner();
    for (int c = 0; c < 20; c++) x.show(c, c % 9);
    for (int c = 0; c < 20; c++) due("clue(" + c + ")", x.clue(c), c % 9);
    x.cover(10);
    due("clue(10)", x.clue(10), NONE);
    due("clue(11)", x.clue(11), 2);
  }

  private static void groups() {
    promise = 6;
    due("groups() of a new object", new MineReasoner().groups(), 0);
    due("groups() with cell 0", field(0, 1).groups(), 1);
    due("groups() with two far corners", field(0, 1, 19, 1).groups(), 2);
    due("groups() with four corners, rows 1 and 2 apart", field(0, 1, 4, 1, 15, 1, 19, 1).groups(), 4);
    due("groups() with a link between corners", field(0, 1, 4, 1, 2, 1).groups(), 1);
    due("groups() over the end of a row", field(4, 0, 5, 0).groups(), 2);
    due("groups() with all shown", allShown(0).groups(), 0);
    MineReasoner x = allShown(0);
    x.cover(0);
    x.cover(19);
    due("groups() with two lone covered cells", x.groups(), 2);
    x.cover(1);
    due("groups() with a covered pair and a lone one", x.groups(), 2);
    due("groups() with a clash", field(0, 8).groups(), 1);
    MineReasoner y = field(0, 1, 19, 1);
    y.total(0);
    due("groups() whatever the total", y.groups(), 2);
  }

  private static void groupOf() {
    promise = 7;
    MineReasoner x = field(0, 1, 19, 1);
    for (int c : new int[] {1, 5, 6, 13, 14, 18}) due("groupOf(" + c + ")", x.groupOf(c), 3);
    for (int c : new int[] {0, 19, 2, 4, 7, 12, 15}) due("groupOf(" + c + ")", x.groupOf(c), 0);
    due("groupOf(1) in a row", field(0, 1, 2, 1, 4, 1).groupOf(1), 7);
    // A chain from corner to corner: 0, 5 | 2, 6 | 3, 11 | 8, 12 | 9, 17 | 14, 18; from 14 it goes against the order of the cells.
    MineReasoner chain = field(1, 0, 7, 0, 13, 0, 19, 0);
    for (int c : new int[] {0, 5, 2, 6, 3, 11, 8, 12, 9, 17, 14, 18}) due("groupOf(" + c + ") in a chain", chain.groupOf(c), 12);
    for (int c : new int[] {1, 7, 13, 19, 4, 10, 15, 16}) due("groupOf(" + c + ") beside a chain", chain.groupOf(c), 0);
    MineReasoner y = allShown(0);
    y.cover(12);
    due("groupOf(12) alone", y.groupOf(12), 1);
    due("groupOf(11) shown", y.groupOf(11), 0);
  }

  private static void layouts() {
    promise = 8;
    due("layouts() with 3 at a corner", field(0, 3).layouts(), 1 << 16);
    due("layouts() with 1 at a corner", field(0, 1).layouts(), 3 << 16);
    due("layouts() with 4 at a corner", field(0, 4).layouts(), 0);
    due("layouts() with 5 at a side", field(2, 5).layouts(), 1 << 14);
    due("layouts() with 8 in the middle", field(12, 8).layouts(), 1 << 11);
    due("layouts() with 4 in the middle", field(12, 4).layouts(), 70 << 11);
    due("layouts() with all shown, 0", allShown(0).layouts(), 1);
    due("layouts() with all shown, 1", allShown(1).layouts(), 0);
    MineReasoner x = allShown(0);
    x.total(0);
    due("layouts() with all shown, total 0", x.layouts(), 1);
    x.total(1);
    due("layouts() with all shown, total 1", x.layouts(), 0);
    MineReasoner y = field(0, 1);
    y.total(2);
    due("layouts() with a total", y.layouts(), 3 * 16);
    y.total(20);
    due("layouts() with a total above the covered cells", y.layouts(), 0);
  }

  private static void mined() {
    promise = 9;
    MineReasoner x = field(0, 1);
    due("mined(0) shown", x.mined(0), 0);
    due("mined(1)", x.mined(1), 1 << 16);
    due("mined(6)", x.mined(6), 1 << 16);
    due("mined(19)", x.mined(19), 3 << 15);
    x.total(2);
    due("mined(1) with a total", x.mined(1), 16);
    due("mined(19) with a total", x.mined(19), 3);
    due("mined(1) without layouts", field(0, 4).mined(1), 0);
  }

  private static void free() {
    promise = 10;
    MineReasoner x = field(0, 0);
    due("free()", x.free(), set(1, 5, 6));
    x.total(0);
    due("free() with total 0", x.free(), ALL & ~set(0));
    x.total(20);
    due("free() without layouts", x.free(), 0);
    due("free() of a new object", new MineReasoner().free(), 0);
    due("free() with all shown", allShown(0).free(), 0);
  }

  private static void sure() {
    promise = 11;
    MineReasoner x = field(0, 3);
    due("sure()", x.sure(), set(1, 5, 6));
    x.total(19);
    due("sure() with all mined", x.sure(), ALL & ~set(0));
    x.total(2);
    due("sure() without layouts", x.sure(), 0);
    due("sure() of a new object", new MineReasoner().sure(), 0);
    due("sure() with all shown", allShown(0).sure(), 0);
  }

  private static void best() {
    promise = 12;
    due("best() of a new object", new MineReasoner().best(), 0);
    due("best() with 1 at the corner", field(0, 1).best(), 1);
    due("best() with 2 at the corner", field(0, 2).best(), 2);
    due("best() with 0 at the last corner", field(19, 0).best(), 13);
    due("best() without layouts", field(0, 4).best(), NONE);
    due("best() with all shown", allShown(0).best(), NONE);
    MineReasoner x = allShown(0);
    x.cover(19);
    for (int c : new int[] {13, 14, 18}) x.show(c, 1);
    due("best() with one cell that is sure", x.best(), 19);
    MineReasoner y = new MineReasoner();
    y.total(20);
    due("best() with all mined", y.best(), 0);
    y.total(0);
    y.show(0, 0);
    due("best() with none mined, after all were", y.best(), 1);
    y.total(1);
    due("best() with one mined, after all were", y.best(), 1);
    y.show(0, 1);
    due("best() with the one mined at the corner", y.best(), 2);
    due("best() again", y.best(), 2);
  }

  private static void clues() {
    promise = 13;
    MineReasoner x = new MineReasoner();
    due("clues(0)", x.clues(0), set(0, 1, 2, 3));
    due("clues(2)", x.clues(2), set(0, 1, 2, 3, 4, 5));
    due("clues(12)", x.clues(12), set(0, 1, 2, 3, 4, 5, 6, 7, 8));
    x.total(2);
    due("clues(12) with total 2", x.clues(12), set(0, 1, 2));
    x.total(19);
    due("clues(12) with total 19", x.clues(12), set(8));
    x.total(20);
    due("clues(12) with total 20", x.clues(12), 0);
    MineReasoner y = field(0, 3);
    due("clues(0) shown", y.clues(0), 0);
    due("clues(1) sure", y.clues(1), 0);
    due("clues(2)", y.clues(2), set(2, 3, 4, 5));
    due("clues(2) without layouts", field(0, 4).clues(2), 0);
  }

  private static void withMines() {
    promise = 14;
    MineReasoner x = new MineReasoner();
    due("withMines(0)", x.withMines(0), 1);
    due("withMines(20)", x.withMines(20), 1);
    due("withMines(3)", x.withMines(3), 1140);
    due("withMines(21)", x.withMines(21), 0);
    due("withMines(-1)", x.withMines(-1), 0);
    due("withMines(min)", x.withMines(Integer.MIN_VALUE), 0);
    due("withMines(max)", x.withMines(Integer.MAX_VALUE), 0);
    x.show(0, 2);
    due("withMines(1)", x.withMines(1), 0);
    due("withMines(2)", x.withMines(2), 3);
    due("withMines(3)", x.withMines(3), 48);
    x.total(3);
    due("withMines(2) with total 3", x.withMines(2), 0);
    due("withMines(3) with total 3", x.withMines(3), 48);
  }

  private static void simple() {
    promise = 15;
    due("simple() of a new object", new MineReasoner().simple(), 0);
    due("simple() with 0", field(12, 0).simple(), 8);
    due("simple() with 8", field(12, 8).simple(), 8);
    due("simple() with 7", field(12, 7).simple(), 0);
    due("simple() with too much left", field(0, 4).simple(), CLASH);
    due("simple() with too little left", field(0, 3, 2, 1).simple(), CLASH);
    due("simple() with all shown, 0", allShown(0).simple(), 0);
    due("simple() with all shown, 1", allShown(1).simple(), CLASH);
    // 4 frees 3, 8 and 9; then 2 has 1, 6 and 7 left, all mined; then 0 has none left, so 5 is free.
    due("simple() in steps", field(0, 2, 2, 3, 4, 0).simple(), 7);
    due("simple() with a clash after steps", field(0, 1, 2, 3, 4, 0).simple(), CLASH);
    due("simple() where only rule 2 decides", field(0, 1, 1, 1).simple(), 0);
    due("simple() where one mines what the other frees", field(0, 0, 2, 5).simple(), CLASH);
    due("simple() where only rule 2 clashes", field(10, 2, 11, 1).simple(), 0);
    due("simple() where only rule 2 clashes", field(10, 1, 11, 5).simple(), 0);
    MineReasoner x = field(0, 1);
    x.total(0);
    due("simple() whatever the total", x.simple(), 0);
  }

  private static void paired() {
    promise = 16;
    due("paired() of a new object", new MineReasoner().paired(), 0);
    due("paired() with 0", field(12, 0).paired(), 8);
    // Open are 5 and 6 for cell 0, and 2, 5, 6 and 7 for cell 1.
    due("paired() with the same left", field(0, 1, 1, 1).paired(), 2);
    due("paired() with as many more as others", field(0, 1, 1, 3).paired(), 2);
    due("paired() with one more of two others", field(0, 1, 1, 2).paired(), 0);
    due("paired() with a clash of rule 1", field(0, 4).paired(), CLASH);
    due("paired() with all shown, 0", allShown(0).paired(), 0);
    // Open for 10 are 5, 6, 15, 16; for 11 also 7, 12, 17.
    due("paired() with fewer left for the larger", field(10, 2, 11, 1).paired(), CLASH);
    due("paired() with more left by more than others", field(10, 1, 11, 5).paired(), CLASH);
    due("paired() with more left by as many as others", field(10, 1, 11, 4).paired(), 3);
    due("paired() with more left by less than others", field(10, 1, 11, 3).paired(), 0);
    sameOpenCells();
    MineReasoner y = field(0, 1, 1, 1);
    y.total(0);
    due("paired() whatever the total", y.paired(), 2);
  }

  /** With 7, 12 and 17 shown, 5, 6, 15 and 16 are what is open for 10 and for 11. */
  private static void sameOpenCells() {
    due("paired() with the same left for the same open cells", field(10, 1, 11, 1, 7, 3, 12, 2, 17, 1).paired(), 0);
    MineReasoner x = field(10, 1, 11, 2, 7, 3, 12, 2, 17, 1);
    due("simple() with different clues for the same open cells", x.simple(), 0);
    due("paired() with different clues for the same open cells", x.paired(), CLASH);
    due("simple() after a clash of rule 2", x.simple(), 0);
  }

  private static void decided() {
    promise = 17;
    MineReasoner x = field(10, 1, 11, 4);
    for (int c : new int[] {7, 12, 17}) due("decided(" + c + ")", x.decided(c), 1);
    for (int c : new int[] {5, 6, 15, 16, 0, 19, 10, 11}) due("decided(" + c + ")", x.decided(c), NONE);
    MineReasoner y = field(10, 1, 11, 1);
    for (int c : new int[] {7, 12, 17}) due("decided(" + c + ")", y.decided(c), 0);
    due("decided(5)", y.decided(5), NONE);
    due("decided(1)", field(0, 3).decided(1), 1);
    due("decided(1)", field(0, 0).decided(1), 0);
    // Layouts tell that 19 is free, the rules do not look at the total.
    MineReasoner z = field(0, 1);
    z.total(1);
    due("free()", z.free(), ALL & ~set(0, 1, 5, 6));
    due("decided(19)", z.decided(19), NONE);
    due("simple()", z.simple(), 0);
    due("decided(1) after simple()", z.decided(1), NONE);
    z.show(0, 3);
    due("decided(1) with 3", z.decided(1), 1);
    z.show(0, 0);
    due("decided(1) with 0, after 3", z.decided(1), 0);
    z.show(0, 1);
    due("decided(1) with 1, after 0", z.decided(1), NONE);
    z.show(0, 4);
    due("decided(1) with 4", z.decided(1), CLASH);
    z.cover(0);
    due("decided(1) with all covered", z.decided(1), NONE);
  }

  private static void order() {
    promise = 18;
    MineReasoner x = field(0, 4);
    due("decided(0) shown, with a clash", x.decided(0), CLASH);
    due("decided(1) with a clash", x.decided(1), CLASH);
    for (int c : NO_CELLS) {
      due("decided(" + c + ") with a clash", x.decided(c), BAD_ARG);
      due("show(" + c + ", 0)", x.show(c, 0), BAD_ARG);
      due("show(" + c + ", 9)", x.show(c, 9), BAD_ARG);
      due("cover(" + c + ")", x.cover(c), BAD_ARG);
      due("clue(" + c + ")", x.clue(c), BAD_ARG);
      due("groupOf(" + c + ")", x.groupOf(c), BAD_ARG);
      due("mined(" + c + ")", x.mined(c), BAD_ARG);
      due("clues(" + c + ")", x.clues(c), BAD_ARG);
    }
    for (int c = 1; c < 20; c++) due("clue(" + c + ") after refused calls", x.clue(c), NONE);
    due("clue(0) after refused calls", x.clue(0), 4);
    due("show(1, 2)", x.show(1, 2), NONE);
    due("clue(1) after show answered NONE", x.clue(1), 2);
  }

  public static void main(String[] args) {
    newObject();
    show();
    cover();
    total();
    clue();
    groups();
    groupOf();
    layouts();
    mined();
    free();
    sure();
    best();
    clues();
    withMines();
    simple();
    paired();
    decided();
    order();
    System.out.println(wrong == 0 ? "all promises hold" : wrong + " answers are not as due");
    if (wrong != 0) System.exit(1);
  }
}
