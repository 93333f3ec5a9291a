/** Reasons about the mines under a field of four rows of five cells; sets of cells are sums of 2 to the power of each. */
public final class MineReasoner {
    public static final int BAD_ARG = -1;
    public static final int NONE = -2;
    public static final int CLASH = -3;

    private static final int COLUMNS = 5;
    private static final int CELLS = 20;
    private static final int SETS = 1 << CELLS;
    private static final int ALL = SETS - 1;
    private static final int MAX_CLUE = 8;
    private static final int NO_TOTAL = -1;

    private final int[] around = new int[CELLS];
    private final int[] clueOf = new int[CELLS];
    private final int[] minedIn = new int[CELLS];
    private int shown;
    private int total;
    private int knownMined;
    private int knownFree;

    public MineReasoner() {
        for (int c = 0; c < CELLS; c++) {
            around[c] = neighboursOf(c);
            clueOf[c] = NONE;
        }
        shown = 0;
        total = NO_TOTAL;
        knownMined = 0;
        knownFree = 0;
    }

    public int show(int c, int clue) {
        if (!isCell(c) || clue < 0 || clue > MAX_CLUE) {
            return BAD_ARG;
        }
        int before = clueOf[c];
        clueOf[c] = clue;
        shown |= 1 << c;
        return before;
    }

    public int cover(int c) {
        if (!isCell(c)) {
            return BAD_ARG;
        }
        int before = clueOf[c];
        clueOf[c] = NONE;
        shown &= ~(1 << c);
        return before;
    }

    public int total(int n) {
        if (n < NO_TOTAL || n > CELLS) {
            return BAD_ARG;
        }
        int before = total;
        total = n;
        return before;
    }

    public int clue(int c) {
        if (!isCell(c)) {
            return BAD_ARG;
        }
        return clueOf[c];
    }

    public int groups() {
        int count = 0;
        int seen = 0;
        for (int c = 0; c < CELLS; c++) {
            if (!has(seen, c)) {
                int group = groupWith(c);
                if (group != 0) {
                    count++;
                }
                seen |= group;
            }
        }
        return count;
    }

    public int groupOf(int c) {
        if (!isCell(c)) {
            return BAD_ARG;
        }
        int group = groupWith(c);
        return sizeOf(group);
    }

    public int layouts() {
        int count = 0;
        for (int mines = 0; mines < SETS; mines++) {
            if (isLayout(mines)) {
                count++;
            }
        }
        return count;
    }

    public int mined(int c) {
        if (!isCell(c)) {
            return BAD_ARG;
        }
        int count = 0;
        for (int mines = 0; mines < SETS; mines++) {
            if (has(mines, c) && isLayout(mines)) {
                count++;
            }
        }
        return count;
    }

    public int free() {
        boolean any = false;
        int neverMined = ALL & ~shown;
        for (int mines = 0; mines < SETS; mines++) {
            if (isLayout(mines)) {
                any = true;
                neverMined &= ~mines;
            }
        }
        return any ? neverMined : 0;
    }

    public int sure() {
        boolean any = false;
        int alwaysMined = ALL & ~shown;
        for (int mines = 0; mines < SETS; mines++) {
            if (isLayout(mines)) {
                any = true;
                alwaysMined &= mines;
            }
        }
        return any ? alwaysMined : 0;
    }

    public int best() {
        if (countMined() == 0) {
            return NONE;
        }
        int fewest = SETS + 1;
        int best = NONE;
        for (int c = 0; c < CELLS; c++) {
            if (!has(shown, c) && minedIn[c] < fewest) {
                fewest = minedIn[c];
                best = c;
            }
        }
        return best;
    }

    public int clues(int c) {
        if (!isCell(c)) {
            return BAD_ARG;
        }
        if (has(shown, c)) {
            return 0;
        }
        int numbers = 0;
        for (int mines = 0; mines < SETS; mines++) {
            if (!has(mines, c) && isLayout(mines)) {
                numbers |= 1 << sizeOf(mines & around[c]);
            }
        }
        return numbers;
    }

    public int withMines(int n) {
        int count = 0;
        for (int mines = 0; mines < SETS; mines++) {
            if (sizeOf(mines) == n && isLayout(mines)) {
                count++;
            }
        }
        return count;
    }

    public int simple() {
        return applyRules(false) ? sizeOf(knownMined | knownFree) : CLASH;
    }

    public int paired() {
        return applyRules(true) ? sizeOf(knownMined | knownFree) : CLASH;
    }

    public int decided(int c) {
        if (!isCell(c)) {
            return BAD_ARG;
        }
        if (!applyRules(true)) {
            return CLASH;
        }
        if (has(knownMined, c)) {
            return 1;
        }
        return has(knownFree, c) ? 0 : NONE;
    }

    private static boolean isCell(int c) {
        return c >= 0 && c < CELLS;
    }

    private static boolean has(int set, int c) {
        return (set >> c & 1) != 0;
    }

    // Adds bits in parallel, as it is asked up to some million times in one call.
    private static int sizeOf(int set) {
        int pairs = (set & 0x55555555) + (set >>> 1 & 0x55555555);
        int fours = (pairs & 0x33333333) + (pairs >>> 2 & 0x33333333);
        int eights = (fours & 0x0f0f0f0f) + (fours >>> 4 & 0x0f0f0f0f);
        return eights * 0x01010101 >>> 24;
    }

    private static int neighboursOf(int c) {
        int set = 0;
        for (int other = 0; other < CELLS; other++) {
            int rows = other / COLUMNS - c / COLUMNS;
            int columns = other % COLUMNS - c % COLUMNS;
            boolean near = rows >= -1 && rows <= 1 && columns >= -1 && columns <= 1;
            if (near && other != c) {
                set |= 1 << other;
            }
        }
        return set;
    }

    private boolean isLayout(int mines) {
        if ((mines & shown) != 0) {
            return false;
        }
        if (total != NO_TOTAL && sizeOf(mines) != total) {
            return false;
        }
        // Stops behind the last shown cell, since most fields with many sets to try have few shown cells.
        for (int c = 0; c < CELLS && shown >> c != 0; c++) {
            if (has(shown, c) && sizeOf(mines & around[c]) != clueOf[c]) {
                return false;
            }
        }
        return true;
    }

    // Counts for all cells in one go through the sets, and answers the number of layouts.
    private int countMined() {
        for (int c = 0; c < CELLS; c++) {
            minedIn[c] = 0;
        }
        int count = 0;
        for (int mines = 0; mines < SETS; mines++) {
            if (isLayout(mines)) {
                count++;
                for (int c = 0; c < CELLS; c++) {
                    minedIn[c] += mines >> c & 1;
                }
            }
        }
        return count;
    }

    // Each pass but the last adds a cell at least, so as many passes as there are cells suffice.
    private int groupWith(int c) {
        int group = 0;
        if (!has(shown, c) && (around[c] & shown) != 0) {
            group = 1 << c;
        }
        for (int pass = 0; pass < CELLS; pass++) {
            for (int s = 0; s < CELLS; s++) {
                if (has(shown, s) && (around[s] & group) != 0) {
                    group |= around[s] & ~shown;
                }
            }
        }
        return group;
    }

    // False on a clash. Deciding more never takes a clash away, so the order in which cells are looked at is free.
    private boolean applyRules(boolean withPairs) {
        knownMined = 0;
        knownFree = 0;
        // Each round but the last decides a cell at least.
        for (int round = 0; round <= CELLS; round++) {
            int before = knownMined | knownFree;
            if (!applyRule1() || (withPairs && !applyRule2())) {
                return false;
            }
            if ((knownMined | knownFree) == before) {
                return true;
            }
        }
        return true;
    }

    private boolean applyRule1() {
        for (int c = 0; c < CELLS; c++) {
            if (has(shown, c)) {
                int open = openOf(c);
                int left = leftOf(c);
                if (!settle(open, left)) {
                    return false;
                }
            }
        }
        return true;
    }

    private boolean applyRule2() {
        for (int a = 0; a < CELLS; a++) {
            for (int b = 0; b < CELLS; b++) {
                if (a == b || !has(shown, a) || !has(shown, b)) {
                    continue;
                }
                int openA = openOf(a);
                int openB = openOf(b);
                if ((openA & ~openB) == 0) {
                    int more = leftOf(b) - leftOf(a);
                    if (!settle(openB & ~openA, more)) {
                        return false;
                    }
                }
            }
        }
        return true;
    }

    // Decides open cells of which this many are mined, if that tells all of them; false if so many can't be.
    private boolean settle(int cells, int mines) {
        int size = sizeOf(cells);
        if (mines < 0 || mines > size) {
            return false;
        }
        if (mines == 0) {
            knownFree |= cells;
        } else if (mines == size) {
            knownMined |= cells;
        }
        return true;
    }

    private int openOf(int c) {
        return around[c] & ~(shown | knownMined | knownFree);
    }

    private int leftOf(int c) {
        return clueOf[c] - sizeOf(around[c] & knownMined);
    }
}
