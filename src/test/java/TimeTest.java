import java.util.Random;

/**
 * Ordinary calls, one after another, come to their end soon. The limit is wide, so that a slow machine passes,
 * but trying all sets of cells in each call would need many times as long.
 */
public final class TimeTest {
  private static final int RUNS = 1000;
  private static final int CALLS = 512;
  private static final long LIMIT_SECONDS = 30;

  private static int minesAround(int mines, int c) {
    int count = 0;
    for (int d = 0; d < 20; d++) {
      boolean near = d != c && Math.abs(d / 5 - c / 5) <= 1 && Math.abs(d % 5 - c % 5) <= 1;
      if (near && (mines >> d & 1) != 0) count++;
    }
    return count;
  }

  /** Tells the truth about the mines, so that most fields have layouts to be counted. */
  private static int call(MineReasoner x, Random chance, int mines) {
    int c = chance.nextInt(20);
    switch (chance.nextInt(16)) {
      case 0: return (mines >> c & 1) != 0 ? x.cover(c) : x.show(c, minesAround(mines, c));
      case 1: return x.cover(c);
      case 2: return x.total(chance.nextBoolean() ? -1 : Integer.bitCount(mines));
      case 3: return x.clue(c);
      case 4: return x.groups();
      case 5: return x.groupOf(c);
      case 6: return x.layouts();
      case 7: return x.mined(c);
      case 8: return x.free();
      case 9: return x.sure();
      case 10: return x.best();
      case 11: return x.clues(c);
      case 12: return x.withMines(chance.nextInt(21));
      case 13: return x.simple();
      case 14: return x.paired();
      default: return x.decided(c);
    }
  }

  public static void main(String[] args) {
    Random chance = new Random(3L);
    long start = System.nanoTime();
    for (int run = 0; run < RUNS; run++) {
      MineReasoner x = new MineReasoner();
      int mines = chance.nextInt(1 << 20) & chance.nextInt(1 << 20);
      for (int i = 0; i < CALLS; i++) {
        call(x, chance, mines);
        if (System.nanoTime() - start > LIMIT_SECONDS * 1_000_000_000L) {
          System.out.println("run " + run + ", call " + i + ": not at the end after " + LIMIT_SECONDS + " seconds");
          System.exit(1);
        }
      }
    }
    System.out.println(RUNS + " runs of " + CALLS + " calls in " + (System.nanoTime() - start) / 1_000_000 + " ms");
  }
}
