/** Reasons about the mines under a field of four rows of five cells; sets of cells are sums of 2 to the power of each. */
public final class MineReasoner {
    public static final int BAD_ARG = -1;
    public static final int NONE = -2;
    public static final int CLASH = -3;

    private static final int COLUMNS = 5;
    private static final int CELLS = 20;
    private static final int ALL = (1 << CELLS) - 1;
    private static final int FIRST_COLUMN = 1 | 1 << 5 | 1 << 10 | 1 << 15;
    private static final int LAST_COLUMN = FIRST_COLUMN << 4;
    private static final int MAX_CLUE = 8;
    private static final int NO_TOTAL = -1;
    private static final int NO_CELL = -1;
    // The total is one more clue, behind those of the cells, that counts the mines of all cells.
    private static final int TOTAL = CELLS;
    private static final int CLUES = CELLS + 1;
    private static final int KINDS = CELLS + 1;
    // A cell is counted by the clues of at most eight neighbours and by the total.
    private static final int LINKS = MAX_CLUE + 1;
    private static final int ALL_LINKS = KINDS * LINKS;
    private static final int LEVELS = KINDS + 1;
    // A search can't need more than seven steps for each set of cells; it needs some thousands at most.
    private static final int MAX_STEPS = 8 << CELLS;

    private final int[] around = new int[CELLS];
    private final int[] clueOf = new int[CELLS];
    private int shown;
    private int total;

    // What the rules have decided in the call under way.
    private int knownMined;
    private int knownFree;

    // Covered cells that the same clues count are of one kind: any of them can stand for another. Layouts are
    // counted by the number of mines in each kind. The last kind is that of cells with no shown neighbour.
    private final int[] kindOf = new int[CELLS];
    private final int[] cluesOf = new int[KINDS];
    private final int[] sizes = new int[KINDS];
    private int lastKind;

    // The clues in force, and for each the mines still missing and the cells that it counts.
    private final int[] clueList = new int[CLUES];
    private final int[] missing = new int[CLUES];
    private final int[] room = new int[CLUES];
    private int listed;

    // For each kind the clues that count it, and for each of these how many cells of later kinds it counts.
    private final int[] links = new int[ALL_LINKS];
    private final int[] laterRoom = new int[ALL_LINKS];
    private final int[] linkEnd = new int[KINDS];

    // For each kind the mines that the search has put there and their greatest number, the layouts counted before
    // they were put there, and in how many ways the kinds before it can have theirs.
    private final int[] taken = new int[KINDS];
    private final int[] most = new int[KINDS];
    private final int[] countBefore = new int[KINDS];
    private final int[] ways = new int[LEVELS];

    // What the last search was for and what it found, with the mines of each kind summed over all layouts. It is
    // kept until a clue changes, since questions often follow each other with no change between them.
    private final int[] minesIn = new int[KINDS];
    private int count;
    private int numbers;
    private int countedCell;
    private int countedMines;
    private boolean counted;

    public MineReasoner() {
        for (int c = 0; c < CELLS; c++) {
            around[c] = neighboursOf(c);
            clueOf[c] = NONE;
        }
        shown = 0;
        total = NO_TOTAL;
        counted = false;
    }

    public int show(int c, int clue) {
        if (!isCell(c) || clue < 0 || clue > MAX_CLUE) {
            return BAD_ARG;
        }
        int before = clueOf[c];
        clueOf[c] = clue;
        shown |= 1 << c;
        counted = false;
        return before;
    }

    public int cover(int c) {
        if (!isCell(c)) {
            return BAD_ARG;
        }
        int before = clueOf[c];
        clueOf[c] = NONE;
        shown &= ~(1 << c);
        counted = false;
        return before;
    }

    public int total(int n) {
        if (n < NO_TOTAL || n > CELLS) {
            return BAD_ARG;
        }
        int before = total;
        total = n;
        return before;
    }

    public int clue(int c) {
        if (!isCell(c)) {
            return BAD_ARG;
        }
        return clueOf[c];
    }

    public int groups() {
        int found = 0;
        int seen = 0;
        for (int c = 0; c < CELLS; c++) {
            if (!has(seen, c) && isAtEdge(c)) {
                seen |= groupWith(c);
                found++;
            }
        }
        return found;
    }

    public int groupOf(int c) {
        if (!isCell(c)) {
            return BAD_ARG;
        }
        if (!isAtEdge(c)) {
            return 0;
        }
        int group = groupWith(c);
        return sizeOf(group);
    }

    public int layouts() {
        countWith(NO_CELL, total);
        return count;
    }

    public int mined(int c) {
        if (!isCell(c)) {
            return BAD_ARG;
        }
        if (has(shown, c)) {
            return 0;
        }
        countWith(NO_CELL, total);
        return minedLayouts(c);
    }

    public int free() {
        countWith(NO_CELL, total);
        return cellsMinedIn(0);
    }

    public int sure() {
        countWith(NO_CELL, total);
        return cellsMinedIn(count);
    }

    public int best() {
        countWith(NO_CELL, total);
        if (count == 0) {
            return NONE;
        }
        int best = NONE;
        int fewest = count + 1;
        for (int c = 0; c < CELLS; c++) {
            if (!has(shown, c)) {
                int mined = minedLayouts(c);
                if (mined < fewest) {
                    fewest = mined;
                    best = c;
                }
            }
        }
        return best;
    }

    public int clues(int c) {
        if (!isCell(c)) {
            return BAD_ARG;
        }
        if (has(shown, c)) {
            return 0;
        }
        countWith(c, total);
        return numbers;
    }

    public int withMines(int n) {
        if (n < 0 || n > CELLS || (total != NO_TOTAL && total != n)) {
            return 0;
        }
        countWith(NO_CELL, n);
        return count;
    }

    public int simple() {
        return applyRules(false) ? sizeOf(knownMined | knownFree) : CLASH;
    }

    public int paired() {
        return applyRules(true) ? sizeOf(knownMined | knownFree) : CLASH;
    }

    public int decided(int c) {
        if (!isCell(c)) {
            return BAD_ARG;
        }
        if (!applyRules(true)) {
            return CLASH;
        }
        if (has(knownMined, c)) {
            return 1;
        }
        return has(knownFree, c) ? 0 : NONE;
    }

    private static boolean isCell(int c) {
        return c >= 0 && c < CELLS;
    }

    private static boolean has(int set, int c) {
        return (set >> c & 1) != 0;
    }

    private static int sizeOf(int set) {
        int pairs = (set & 0x55555555) + (set >>> 1 & 0x55555555);
        int fours = (pairs & 0x33333333) + (pairs >>> 2 & 0x33333333);
        int eights = (fours & 0x0f0f0f0f) + (fours >>> 4 & 0x0f0f0f0f);
        return eights * 0x01010101 >>> 24;
    }

    // A step aside from the first or the last column would come out in another row.
    private static int neighboursOf(int c) {
        int cell = 1 << c;
        int inRow = cell | (cell & ~LAST_COLUMN) << 1 | (cell & ~FIRST_COLUMN) >> 1;
        return (inRow | inRow << COLUMNS | inRow >> COLUMNS) & ALL & ~cell;
    }

    private static int choose(int size, int some) {
        int chosen = 1;
        for (int i = 0; i < some; i++) {
            chosen = chosen * (size - i) / (i + 1);
        }
        return chosen;
    }

    private boolean isAtEdge(int c) {
        return !has(shown, c) && (around[c] & shown) != 0;
    }

    // The cells of a kind have mines in equally many layouts, so this divides without a rest.
    private int minedLayouts(int c) {
        int kind = kindOf[c];
        int size = sizes[kind];
        return size == 0 ? 0 : minesIn[kind] / size;
    }

    private int cellsMinedIn(int some) {
        if (count == 0) {
            return 0;
        }
        int cells = 0;
        for (int c = 0; c < CELLS; c++) {
            if (!has(shown, c) && minedLayouts(c) == some) {
                cells |= 1 << c;
            }
        }
        return cells;
    }

    // Counts the layouts with so many mines; if a cell is watched, those with no mine there, and notes its numbers.
    private void countWith(int watched, int mines) {
        if (counted && watched == countedCell && mines == countedMines) {
            return;
        }
        countedCell = watched;
        countedMines = mines;
        counted = true;
        count = 0;
        numbers = 0;
        findKinds();
        listClues();
        if (mines == NO_TOTAL) {
            // No clue counts the last kind, so each of its cells has a mine in half of the layouts.
            ways[0] = 1 << sizes[lastKind];
            search(lastKind);
            minesIn[lastKind] = count * sizes[lastKind] / 2;
        } else {
            ways[0] = 1;
            search(lastKind + 1);
        }
    }

    private void findKinds() {
        int always = countedMines == NO_TOTAL ? 0 : 1 << TOTAL;
        int seen = countedCell == NO_CELL ? shown : shown | 1 << countedCell;
        int others = 0;
        lastKind = 0;
        for (int c = 0; c < CELLS; c++) {
            int near = around[c] & seen;
            if (near == 0) {
                others |= 1 << c;
            } else if (!has(seen, c)) {
                join(c, near | always);
            }
        }
        others &= ~seen;
        for (int c = 0; c < CELLS; c++) {
            if (has(others, c)) {
                kindOf[c] = lastKind;
            }
        }
        cluesOf[lastKind] = always;
        sizes[lastKind] = sizeOf(others);
    }

    private void join(int c, int counting) {
        int kind = 0;
        while (kind < lastKind && cluesOf[kind] != counting) {
            kind++;
        }
        if (kind == lastKind) {
            cluesOf[kind] = counting;
            sizes[kind] = 0;
            lastKind++;
        }
        sizes[kind]++;
        kindOf[c] = kind;
    }

    private void listClues() {
        listed = 0;
        for (int c = 0; c < CELLS; c++) {
            if (has(shown, c)) {
                list(c, clueOf[c], 0);
            }
        }
        if (countedCell != NO_CELL) {
            // So much of both that the watched cell never bounds its neighbours.
            list(countedCell, MAX_CLUE, MAX_CLUE);
        }
        if (countedMines != NO_TOTAL) {
            list(TOTAL, countedMines, 0);
        }
    }

    private void list(int clue, int mines, int cells) {
        clueList[listed] = clue;
        missing[clue] = mines;
        room[clue] = cells;
        listed++;
    }

    private void linkKinds(int kinds) {
        for (int kind = kinds - 1; kind >= 0; kind--) {
            int end = kind * LINKS;
            for (int i = 0; i < listed; i++) {
                int clue = clueList[i];
                if (has(cluesOf[kind], clue)) {
                    links[end] = clue;
                    laterRoom[end] = room[clue];
                    room[clue] += sizes[kind];
                    end++;
                }
            }
            linkEnd[kind] = end;
            minesIn[kind] = 0;
        }
    }

    private boolean cluesHaveRoom() {
        for (int i = 0; i < listed; i++) {
            int clue = clueList[i];
            if (missing[clue] > room[clue]) {
                return false;
            }
        }
        return true;
    }

    // Goes down to the next kind with each number of mines that this one can have, and then up again.
    private void search(int kinds) {
        linkKinds(kinds);
        int kind = cluesHaveRoom() ? 0 : -1;
        boolean down = true;
        for (int step = 0; step < MAX_STEPS && kind >= 0; step++) {
            if (kind == kinds) {
                noteLayouts(kinds);
                down = false;
            } else {
                down = down ? takeFewest(kind) : takeOneMore(kind);
            }
            if (down) {
                int chosen = choose(sizes[kind], taken[kind]);
                ways[kind + 1] = ways[kind] * chosen;
                kind++;
            } else {
                kind--;
            }
        }
    }

    private void noteLayouts(int kinds) {
        count += ways[kinds];
        if (countedCell != NO_CELL) {
            numbers |= 1 << MAX_CLUE - missing[countedCell];
        }
    }

    // No clue may get more than it misses, nor be left with more than later kinds have room for.
    private boolean takeFewest(int kind) {
        int fewest = 0;
        int greatest = sizes[kind];
        for (int i = kind * LINKS; i < linkEnd[kind]; i++) {
            int need = missing[links[i]];
            if (need < greatest) {
                greatest = need;
            }
            if (need - laterRoom[i] > fewest) {
                fewest = need - laterRoom[i];
            }
        }
        if (fewest > greatest) {
            return false;
        }
        taken[kind] = 0;
        most[kind] = greatest;
        take(kind, fewest);
        return true;
    }

    // False if there can be no more; then the kind has given back what it had.
    private boolean takeOneMore(int kind) {
        minesIn[kind] += (count - countBefore[kind]) * taken[kind];
        boolean more = taken[kind] < most[kind];
        take(kind, more ? 1 : -taken[kind]);
        return more;
    }

    private void take(int kind, int mines) {
        taken[kind] += mines;
        for (int i = kind * LINKS; i < linkEnd[kind]; i++) {
            missing[links[i]] -= mines;
        }
        countBefore[kind] = count;
    }

    // Each pass but the last adds a cell at least.
    private int groupWith(int c) {
        int group = 1 << c;
        int before = 0;
        for (int pass = 0; pass < CELLS && group != before; pass++) {
            before = group;
            for (int s = 0; s < CELLS; s++) {
                if (has(shown, s) && (around[s] & group) != 0) {
                    group |= around[s] & ~shown;
                }
            }
        }
        return group;
    }

    // False on a clash. Deciding more never takes a clash away, so the order in which cells are looked at is free.
    private boolean applyRules(boolean withPairs) {
        knownMined = 0;
        knownFree = 0;
        // Each round but the last decides a cell at least.
        for (int round = 0; round <= CELLS; round++) {
            int before = knownMined | knownFree;
            if (!applyRule1() || (withPairs && !applyRule2())) {
                return false;
            }
            if ((knownMined | knownFree) == before) {
                return true;
            }
        }
        return true;
    }

    private boolean applyRule1() {
        for (int c = 0; c < CELLS; c++) {
            if (has(shown, c)) {
                int open = openOf(c);
                int left = leftOf(c);
                if (!settle(open, left)) {
                    return false;
                }
            }
        }
        return true;
    }

    // An a with no open cell tells nothing of b that rule 1 does not tell, so it is passed over.
    private boolean applyRule2() {
        for (int a = 0; a < CELLS; a++) {
            int openA = has(shown, a) ? openOf(a) : 0;
            if (openA == 0) {
                continue;
            }
            // Other open cells of b are no neighbours of a, so this stays the same while they are decided.
            int leftA = leftOf(a);
            for (int b = 0; b < CELLS; b++) {
                if (b != a && has(shown, b) && (openA & ~around[b]) == 0) {
                    int others = openOf(b) & ~openA;
                    int more = leftOf(b) - leftA;
                    if (!settle(others, more)) {
                        return false;
                    }
                }
            }
        }
        return true;
    }

    // Decides open cells of which this many are mined, if that tells all of them; false if so many can't be.
    private boolean settle(int cells, int mines) {
        int size = sizeOf(cells);
        if (mines < 0 || mines > size) {
            return false;
        }
        if (mines == 0) {
            knownFree |= cells;
        } else if (mines == size) {
            knownMined |= cells;
        }
        return true;
    }

    private int openOf(int c) {
        return around[c] & ~(shown | knownMined | knownFree);
    }

    private int leftOf(int c) {
        return clueOf[c] - sizeOf(around[c] & knownMined);
    }
}
