import java.util.Random;

/**
 * Long runs of calls in any order, compared with a trial of all sets of cells for each field met; so questions
 * come again with and without a change between them, and on fields with few shown cells. The seed is fixed.
 */
public final class SetsTest {
  private static final int NONE = -2;
  private static final int CELLS = 20;
  private static final int ALL = (1 << CELLS) - 1;

  private static final Random CHANCE = new Random(5L);
  private static int wrong = 0;
  private static int compared = 0;
  private static int fields = 0;

  private final int[] clue = new int[CELLS];
  private int shown = 0;
  private int total = -1;
  private boolean tried = false;

  private int layouts;
  private final int[] mined = new int[CELLS];
  private final int[] clues = new int[CELLS];
  private final int[] withMines = new int[CELLS + 1];

  private static final int[] AROUND = new int[CELLS];
  static {
    for (int c = 0; c < CELLS; c++) {
      for (int d = 0; d < CELLS; d++) {
        if (d != c && Math.abs(d / 5 - c / 5) <= 1 && Math.abs(d % 5 - c % 5) <= 1) AROUND[c] |= 1 << d;
      }
    }
  }

  private boolean isLayout(int mines) {
    if ((mines & shown) != 0 || total >= 0 && Integer.bitCount(mines) != total) return false;
    for (int c = 0; c < CELLS; c++) {
      if ((shown >> c & 1) != 0 && Integer.bitCount(mines & AROUND[c]) != clue[c]) return false;
    }
    return true;
  }

  private void tryAllSets() {
    if (tried) return;
    tried = true;
    fields++;
    layouts = 0;
    for (int c = 0; c < CELLS; c++) {
      mined[c] = 0;
      clues[c] = 0;
    }
    for (int n = 0; n <= CELLS; n++) withMines[n] = 0;
    for (int mines = 0; mines <= ALL; mines++) {
      if (!isLayout(mines)) continue;
      layouts++;
      withMines[Integer.bitCount(mines)]++;
      for (int c = 0; c < CELLS; c++) {
        if ((mines >> c & 1) != 0) mined[c]++;
        else if ((shown >> c & 1) == 0) clues[c] |= 1 << Integer.bitCount(mines & AROUND[c]);
      }
    }
  }

  private int cellsMinedIn(int n) {
    int cells = 0;
    for (int c = 0; c < CELLS; c++) if (layouts > 0 && (shown >> c & 1) == 0 && mined[c] == n) cells |= 1 << c;
    return cells;
  }

  private int best() {
    int best = NONE;
    for (int c = 0; c < CELLS; c++) {
      if (layouts > 0 && (shown >> c & 1) == 0 && (best == NONE || mined[c] < mined[best])) best = c;
    }
    return best;
  }

  private void due(String call, int got, int want) {
    compared++;
    if (got == want) return;
    wrong++;
    if (wrong > 50) return;
    StringBuilder field = new StringBuilder();
    for (int c = 0; c < CELLS; c++) if ((shown >> c & 1) != 0) field.append(" ").append(c).append(":").append(clue[c]);
    System.out.println("shown" + field + ", total " + total + ": " + call + " answered " + got + ", due is " + want);
  }

  private void ask(MineReasoner x, int kind) {
    tryAllSets();
    int c = CHANCE.nextInt(CELLS);
    int n = CHANCE.nextInt(CELLS + 1);
    if (kind == 0) due("layouts()", x.layouts(), layouts);
    if (kind == 1) due("mined(" + c + ")", x.mined(c), mined[c]);
    if (kind == 2) due("free()", x.free(), cellsMinedIn(0));
    if (kind == 3) due("sure()", x.sure(), cellsMinedIn(layouts));
    if (kind == 4) due("best()", x.best(), best());
    if (kind == 5) due("clues(" + c + ")", x.clues(c), clues[c]);
    if (kind == 6) due("withMines(" + n + ")", x.withMines(n), withMines[n]);
    if (kind == 7 && total >= 0) due("withMines(" + total + ")", x.withMines(total), withMines[total]);
  }

  private void show(MineReasoner x, int c, int n) {
    due("show(" + c + ", " + n + ")", x.show(c, n), (shown >> c & 1) != 0 ? clue[c] : NONE);
    clue[c] = n;
    shown |= 1 << c;
    tried = false;
  }

  private void cover(MineReasoner x, int c) {
    due("cover(" + c + ")", x.cover(c), (shown >> c & 1) != 0 ? clue[c] : NONE);
    shown &= ~(1 << c);
    tried = false;
  }

  private void setTotal(MineReasoner x, int n) {
    due("total(" + n + ")", x.total(n), total);
    total = n;
    tried = false;
  }

  private void change(MineReasoner x, int mines) {
    int c = CHANCE.nextInt(CELLS);
    int kind = CHANCE.nextInt(8);
    if (kind < 3) show(x, c, Integer.bitCount(mines & AROUND[c]));
    else if (kind == 3) show(x, c, CHANCE.nextInt(9));
    else if (kind < 6) cover(x, c);
    else setTotal(x, kind == 6 ? -1 : Integer.bitCount(mines & ~shown));
  }

  private void refuse(MineReasoner x) {
    due("show(20, 1)", x.show(20, 1), -1);
    due("show(3, 9)", x.show(3, 9), -1);
    due("cover(-1)", x.cover(-1), -1);
    due("total(21)", x.total(21), -1);
  }

  /** Both kinds of question in turn, with one change between that must not be missed by the second. */
  private void askAroundChange(MineReasoner x, int mines) {
    int kind = CHANCE.nextInt(8);
    ask(x, kind);
    int before = CHANCE.nextInt(3);
    if (before == 0) refuse(x);
    else change(x, mines);
    ask(x, kind);
    for (int i = 0; i < 12; i++) ask(x, CHANCE.nextInt(8));
  }

  private static void run(int shownAtFirst) {
    MineReasoner x = new MineReasoner();
    SetsTest model = new SetsTest();
    int mines = CHANCE.nextInt(1 << CELLS) & (CHANCE.nextBoolean() ? ALL : CHANCE.nextInt(1 << CELLS));
    for (int i = 0; i < shownAtFirst; i++) {
      int c = CHANCE.nextInt(CELLS);
      model.show(x, c, Integer.bitCount(mines & AROUND[c]));
    }
    for (int i = 0; i < 8; i++) model.askAroundChange(x, mines);
  }

  public static void main(String[] args) {
    for (int run = 0; run < 36; run++) run(run % 9);
    System.out.println(compared + " answers compared on " + fields + " fields");
    System.out.println(wrong == 0 ? "all answers are as by trial" : wrong + " answers are not as by trial");
    if (wrong != 0) System.exit(1);
  }
}
