import java.util.ArrayList;
import java.util.Collections;
import java.util.List;
import java.util.Random;
import java.util.Set;
import java.util.TreeSet;

/**
 * Runs of calls compared with a second, slow reading of the document: layouts by a search cell by cell,
 * groups by merging sets, rules in a shuffled order. The seed is fixed, so each run is the same.
 */
public final class ModelTest {
  private static final int NONE = -2;
  private static final int CLASH = -3;
  private static final int CELLS = 20;

  private static final Random CHANCE = new Random(20261115L);
  private static int wrong = 0;
  private static int compared = 0;
  private static final int[] seen = new int[6];

  private final int[] clue = new int[CELLS];
  private int total = -1;
  private int calls = 0;
  private final List<boolean[]> found = new ArrayList<>();

  private ModelTest() {
    for (int c = 0; c < CELLS; c++) clue[c] = -1;
  }

  private static List<Integer> neighbours(int c) {
    List<Integer> near = new ArrayList<>();
    for (int r = c / 5 - 1; r <= c / 5 + 1; r++) {
      for (int k = c % 5 - 1; k <= c % 5 + 1; k++) {
        if (r >= 0 && r < 4 && k >= 0 && k < 5 && 5 * r + k != c) near.add(5 * r + k);
      }
    }
    return near;
  }

  private static final List<List<Integer>> NEAR = new ArrayList<>();
  static {
    for (int c = 0; c < CELLS; c++) NEAR.add(neighbours(c));
  }

  private static int minesAround(boolean[] mines, int c) {
    int count = 0;
    for (int n : NEAR.get(c)) if (mines[n]) count++;
    return count;
  }

  private static int minesIn(boolean[] mines) {
    int count = 0;
    for (boolean m : mines) if (m) count++;
    return count;
  }

  private void search(boolean[] mines, int c) {
    for (int s = 0; s < CELLS; s++) {
      if (clue[s] < 0) continue;
      int sofar = minesAround(mines, s);
      int open = 0;
      for (int n : NEAR.get(s)) if (n >= c && clue[n] < 0) open++;
      if (sofar > clue[s] || sofar + open < clue[s]) return;
    }
    if (c == CELLS) {
      if (total < 0 || minesIn(mines) == total) found.add(mines.clone());
      return;
    }
    search(mines, c + 1);
    if (clue[c] < 0) {
      mines[c] = true;
      search(mines, c + 1);
      mines[c] = false;
    }
  }

  private List<Set<Integer>> groups() {
    List<Set<Integer>> groups = new ArrayList<>();
    for (int s = 0; s < CELLS; s++) {
      if (clue[s] < 0) continue;
      Set<Integer> joined = new TreeSet<>();
      for (int n : NEAR.get(s)) if (clue[n] < 0) joined.add(n);
      if (joined.isEmpty()) continue;
      List<Set<Integer>> rest = new ArrayList<>();
      for (Set<Integer> g : groups) {
        if (Collections.disjoint(g, joined)) rest.add(g);
        else joined.addAll(g);
      }
      rest.add(joined);
      groups = rest;
    }
    return groups;
  }

  private Set<Integer> open(int s, int[] known) {
    Set<Integer> open = new TreeSet<>();
    for (int n : NEAR.get(s)) if (clue[n] < 0 && known[n] == NONE) open.add(n);
    return open;
  }

  private int left(int s, int[] known) {
    int left = clue[s];
    for (int n : NEAR.get(s)) if (known[n] == 1) left--;
    return left;
  }

  private static boolean decide(Set<Integer> cells, int left, int[] known) {
    if (left == 0) for (int c : cells) known[c] = 0;
    if (left == cells.size()) for (int c : cells) known[c] = 1;
    return left >= 0 && left <= cells.size();
  }

  /** One application of a rule: of rule 1 to b if a is b, of rule 2 to a and b otherwise. */
  private boolean apply(int a, int b, int[] known) {
    Set<Integer> others = open(b, known);
    if (a == b) return decide(others, left(b, known), known);
    Set<Integer> openA = open(a, known);
    if (!others.containsAll(openA)) return true;
    others.removeAll(openA);
    return decide(others, left(b, known) - left(a, known), known);
  }

  /** What the rules decide of each cell, or null on a clash. */
  private int[] rules(boolean pairs) {
    List<int[]> uses = new ArrayList<>();
    for (int a = 0; a < CELLS; a++) {
      for (int b = 0; b < CELLS; b++) {
        if (clue[a] >= 0 && clue[b] >= 0 && (pairs || a == b)) uses.add(new int[] {a, b});
      }
    }
    int[] known = new int[CELLS];
    for (int c = 0; c < CELLS; c++) known[c] = NONE;
    boolean more = true;
    while (more) {
      int[] before = known.clone();
      Collections.shuffle(uses, CHANCE);
      for (int[] use : uses) if (!apply(use[0], use[1], known)) return null;
      more = !java.util.Arrays.equals(before, known);
    }
    return known;
  }

  private static int countDecided(int[] known) {
    if (known == null) return CLASH;
    int count = 0;
    for (int k : known) if (k != NONE) count++;
    return count;
  }

  /** Each call of the object comes by here, and what an object answers after 512 calls is free. */
  private void due(String call, int got, int want) {
    compared++;
    calls++;
    if (calls == 513) throw new IllegalStateException("a run of this test has more than 512 calls");
    if (got == want) return;
    wrong++;
    if (wrong <= 50) System.out.println("clues " + java.util.Arrays.toString(clue) + ", total " + total + ": " + call + " answered " + got + ", due is " + want);
  }

  private int minedLayouts(int c) {
    int count = 0;
    for (boolean[] mines : found) if (mines[c]) count++;
    return count;
  }

  private void compareLayouts(MineReasoner x) {
    found.clear();
    search(new boolean[CELLS], 0);
    due("layouts()", x.layouts(), found.size());
    int free = 0;
    int sure = 0;
    int best = NONE;
    for (int c = 0; c < CELLS; c++) {
      int mined = minedLayouts(c);
      due("mined(" + c + ")", x.mined(c), mined);
      if (clue[c] >= 0 || found.isEmpty()) continue;
      if (mined == 0) free += 1 << c;
      if (mined == found.size()) sure += 1 << c;
      if (best == NONE || mined < minedLayouts(best)) best = c;
    }
    due("free()", x.free(), free);
    due("sure()", x.sure(), sure);
    due("best()", x.best(), best);
    for (int c = 0; c < CELLS; c++) {
      int clues = 0;
      for (boolean[] mines : found) if (clue[c] < 0 && !mines[c]) clues |= 1 << minesAround(mines, c);
      due("clues(" + c + ")", x.clues(c), clues);
    }
    for (int n = -1; n <= CELLS + 1; n++) {
      int count = 0;
      for (boolean[] mines : found) if (minesIn(mines) == n) count++;
      due("withMines(" + n + ")", x.withMines(n), count);
    }
    seen[found.isEmpty() ? 0 : 1]++;
  }

  private void compareRules(MineReasoner x) {
    int simple = countDecided(rules(false));
    int[] known = rules(true);
    int paired = countDecided(known);
    due("simple()", x.simple(), simple);
    due("paired()", x.paired(), paired);
    for (int c = 0; c < CELLS; c++) due("decided(" + c + ")", x.decided(c), known == null ? CLASH : known[c]);
    if (simple == CLASH) seen[2]++;
    else if (paired == CLASH) seen[3]++;
    else if (paired > simple) seen[4]++;
    else seen[5]++;
  }

  private void compareGroups(MineReasoner x) {
    List<Set<Integer>> groups = groups();
    due("groups()", x.groups(), groups.size());
    for (int c = 0; c < CELLS; c++) {
      int size = 0;
      for (Set<Integer> g : groups) if (g.contains(c)) size = g.size();
      due("groupOf(" + c + ")", x.groupOf(c), size);
    }
  }

  private void compareState(MineReasoner x) {
    for (int c = 0; c < CELLS; c++) due("clue(" + c + ")", x.clue(c), clue[c] < 0 ? NONE : clue[c]);
    due("total(" + total + ")", x.total(total), total);
  }

  private void show(MineReasoner x, int c, int n) {
    due("show(" + c + ", " + n + ")", x.show(c, n), clue[c] < 0 ? NONE : clue[c]);
    clue[c] = n;
  }

  private void cover(MineReasoner x, int c) {
    due("cover(" + c + ")", x.cover(c), clue[c] < 0 ? NONE : clue[c]);
    clue[c] = -1;
  }

  private void setTotal(MineReasoner x, int n) {
    due("total(" + n + ")", x.total(n), total);
    total = n;
  }

  /** A step that mostly tells the truth about some mines, so that fields with layouts are common. */
  private void step(MineReasoner x, boolean[] mines) {
    int c = CHANCE.nextInt(CELLS);
    int kind = CHANCE.nextInt(10);
    if (kind < 7 && !mines[c]) show(x, c, minesAround(mines, c));
    else if (kind == 7) show(x, c, CHANCE.nextInt(20) == 0 ? CHANCE.nextInt(9) : minesAround(mines, c));
    else if (kind == 8) cover(x, c);
    else if (kind == 9) setTotal(x, CHANCE.nextInt(3) == 0 ? CHANCE.nextInt(22) - 1 : CHANCE.nextBoolean() ? -1 : minesIn(mines));
  }

  private static void longRun(int chanceOfMine) {
    MineReasoner x = new MineReasoner();
    ModelTest model = new ModelTest();
    boolean[] mines = new boolean[CELLS];
    for (int c = 0; c < CELLS; c++) mines[c] = CHANCE.nextInt(10) < chanceOfMine;
    int steps = 6 + CHANCE.nextInt(10);
    for (int i = 0; i < steps; i++) model.step(x, mines);
    for (int i = 0; i < 5; i++) {
      model.step(x, mines);
      int shown = 0;
      for (int n : model.clue) if (n >= 0) shown++;
      model.compareGroups(x);
      model.compareRules(x);
      if (shown >= 5 && i % 3 == 0) model.compareLayouts(x);
      model.compareState(x);
    }
  }

  /** Many small fields with any clues, to meet the clashes. */
  private static void wildRun() {
    MineReasoner x = new MineReasoner();
    ModelTest model = new ModelTest();
    int first = CHANCE.nextInt(CELLS);
    for (int i = 0; i < 4; i++) {
      int c = i == 0 ? first : NEAR.get(first).get(CHANCE.nextInt(NEAR.get(first).size()));
      model.show(x, c, CHANCE.nextInt(6));
      model.compareRules(x);
      model.compareGroups(x);
    }
  }

  /** A field told as cell, clue, cell, clue and so on. */
  private static void fixedRun(int... told) {
    MineReasoner x = new MineReasoner();
    ModelTest model = new ModelTest();
    for (int i = 0; i < told.length; i += 2) model.show(x, told[i], told[i + 1]);
    model.compareGroups(x);
    model.compareRules(x);
    model.compareLayouts(x);
  }

  public static void main(String[] args) {
    // Long chains, in which each cell decided tells the next one: eight of rule 1, seven of both, four within a group.
    fixedRun(1, 2, 4, 1, 5, 1, 7, 3, 11, 2, 15, 1, 17, 2, 18, 2, 19, 2);
    fixedRun(0, 2, 2, 2, 7, 3, 9, 2, 10, 2, 13, 2, 14, 1, 17, 3);
    fixedRun(0, 1, 1, 2, 2, 2, 5, 2, 10, 4, 17, 3, 18, 2);
    for (int run = 0; run < 150; run++) longRun(1 + run % 5);
    for (int run = 0; run < 3000; run++) wildRun();
    System.out.println(compared + " answers compared; fields without layouts " + seen[0] + ", with " + seen[1]
        + "; rule 1 clashes " + seen[2] + ", only rule 2 clashes " + seen[3] + ", rule 2 decides more " + seen[4] + ", no more " + seen[5]);
    for (int n : seen) if (n == 0) { wrong++; System.out.println("a kind of field was never met"); }
    System.out.println(wrong == 0 ? "all answers are as the model's" : wrong + " answers are not as the model's");
    if (wrong != 0) System.exit(1);
  }
}
