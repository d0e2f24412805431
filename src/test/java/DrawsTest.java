import java.util.Arrays;

/** Promises 18 to 20: seed, swaps, drawn. */
public final class DrawsTest {
  private static final Check CHECK = new Check();
  private static final long FACTOR = 6364136223846793005L;
  private static final long STEP = 1442695040888963407L;

  public static void main(String[] args) {
    firstDraws();
    drawsAgain();
    everyDrawMovesTheSeed();
    swapsKeepDegrees();
    swapsByHand();
    swapsOfFewEdges();
    drawnBecomes();
    drawnIsFair();
    wrong();
    CHECK.finish();
  }

  private static void firstDraws() {
    // From seed 0 the first one is 1442695040888963407, its half 721347520444481703: odd, by 3: 0.
    RandomModels x = Graphs.of(2, 0);
    CHECK.due("seed 0 at first", x.drawn(0), 1);
    x.seed(0);
    x.chance(1, 3);
    CHECK.due("by 2 to 1", x.drawn(0), 0);
    // The half of a next seed of 2 k or 2 k + 1 is k: the lowest bit does not count.
    for (long k = 0; k < 6; k++) {
      for (long bit = 0; bit < 2; bit++) {
        x.seed(Seeds.before(2 * k + bit));
        CHECK.due("half of it: " + k, x.drawn(0), k % 3 == 2 ? 1 : 0);
      }
    }
    // Without sign: the half of Long.MIN_VALUE is 2^62, by 3: 1.
    x.chance(2, 3);
    x.seed(Seeds.before(Long.MIN_VALUE));
    CHECK.due("half of the least", x.drawn(0), 1);
  }

  private static void drawsAgain() {
    // 2^63 - 1 is below no multiple of anything, so both go on from -1.
    for (int v = 1; v <= 10; v++) {
      RandomModels x = Graphs.of(5, 0);
      RandomModels y = Graphs.of(5, 0);
      x.chance(1, v);
      y.chance(1, v);
      x.seed(Seeds.before(-1));
      y.seed(-1);
      for (int i = 0; i < 10; i++) {
        CHECK.due("drawn again by 1 / " + v, x.drawn(0), y.drawn(0));
      }
    }
    // The greatest multiple of 10^15 is 9223 10^15: its half's own number is refused, one less not.
    long multiple = 9223000000000000000L;
    RandomModels x = Graphs.of(6, 0);
    x.chance(1, 10);
    x.seed(Seeds.before(multiple * 2));
    RandomModels y = Graphs.of(6, 0);
    y.chance(1, 10);
    y.seed(multiple * 2);
    CHECK.due("refused at the multiple", x.drawn(0), y.drawn(0));
    x.seed(Seeds.before(multiple * 2 - 2));
    CHECK.due("taken just below: the last graph", x.drawn(0), 32767);
  }

  private static void everyDrawMovesTheSeed() {
    // One node: a draw below 1 is a draw, too.
    RandomModels x = new RandomModels();
    x.seed(77);
    CHECK.due("drawn(1) of one node", x.drawn(1), 0);
    x.begin(6);
    RandomModels y = Graphs.of(6, 0);
    y.seed(77 * FACTOR + STEP);
    CHECK.due("one step on", x.drawn(0), y.drawn(0));
    // Three draws a try, even if it is in vain.
    RandomModels star = Graphs.of(3, 3);
    star.seed(5);
    CHECK.due("two edges with one node in common", star.swaps(2), 0);
    star.begin(6);
    long seed = 5;
    for (int i = 0; i < 6; i++) {
      seed = seed * FACTOR + STEP;
    }
    y.seed(seed);
    CHECK.due("six steps on", star.drawn(0), y.drawn(0));
  }

  private static void swapsKeepDegrees() {
    RandomModels x = Graphs.of(6, 21011);
    boolean moved = false;
    for (int i = 0; i < 100; i++) {
      x.seed(i);
      x.swaps(100);
      moved |= x.number() != 21011;
      CHECK.holds("the degrees stay", Arrays.equals(Graphs.degrees(6, x.number()), Graphs.degrees(6, 21011)));
    }
    CHECK.holds("swaps move", moved);
  }

  /** With two edges of four nodes all that can happen in one try is seen over many seeds. */
  private static void swapsByHand() {
    // 0, 1 and 2, 3: h = 0 makes 0, 3 and 2, 1 of either order; h = 1 makes 0, 2 and 1, 3.
    int from = 1 | 1 << 5;
    int crossed = 1 << 3 | 1 << 2;
    int straight = 1 << 1 | 1 << 4;
    int[] seen = new int[3];
    for (int i = 0; i < 120; i++) {
      RandomModels x = Graphs.of(4, from);
      x.seed(i);
      long s1 = i * FACTOR + STEP;
      long s2 = s1 * FACTOR + STEP;
      long s3 = s2 * FACTOR + STEP;
      boolean two = (s1 >>> 1) % 2 != (s2 >>> 1) % 2;
      int due = !two ? from : (s3 >>> 1) % 2 == 0 ? crossed : straight;
      CHECK.due("a try by seed " + i, x.swaps(1), two ? 1 : 0);
      CHECK.due("what it makes by seed " + i, x.number(), due);
      seen[!two ? 0 : due == crossed ? 1 : 2]++;
    }
    CHECK.holds("all three happened", seen[0] > 0 && seen[1] > 0 && seen[2] > 0);
    // Both other ways are taken: nothing can be done in a whole graph.
    CHECK.due("all edges", Graphs.of(4, 63).swaps(100), 0);
    // One of the two new ones is there: 0, 2 blocks h = 1.
    for (int i = 0; i < 40; i++) {
      RandomModels x = Graphs.of(4, from | 1 << 1);
      x.seed(i);
      int done = x.swaps(1);
      CHECK.due("done, if and only if it changed", done, x.number() == (from | 1 << 1) ? 0 : 1);
      CHECK.holds("0, 2 stays", (x.number() & 1 << 1) != 0);
    }
  }

  private static void swapsOfFewEdges() {
    RandomModels x = Graphs.of(6, 0);
    RandomModels y = Graphs.of(6, 0);
    x.seed(9);
    y.seed(9);
    CHECK.due("no edges", x.swaps(100), 0);
    x.become(4);
    CHECK.due("one edge", x.swaps(100), 0);
    CHECK.due("swaps(0)", x.swaps(0), 0);
    CHECK.due("it stays", x.number(), 4);
    CHECK.due("no draws were made", x.drawn(0), y.drawn(0));
  }

  private static void drawnBecomes() {
    RandomModels x = Graphs.of(6, 21011);
    x.label(3, 2);
    x.blocks(2);
    int block = x.block(5);
    for (int model = 0; model < 4; model++) {
      int number = x.drawn(model);
      CHECK.due("number() after drawn(" + model + ")", x.number(), number);
    }
    CHECK.due("labels stay", x.label(3, 2), 2);
    CHECK.due("blocks stay", x.block(5), block);
    x.become(21011);
    for (int i = 0; i < 50; i++) {
      x.drawn(1);
      CHECK.due("as many edges", x.thing(0), Integer.bitCount(21011));
    }
    int[] degrees = Graphs.degrees(6, x.number());
    for (int i = 0; i < 50; i++) {
      CHECK.holds("same degrees", Arrays.equals(Graphs.degrees(6, x.drawn(2)), degrees));
    }
    x.chance(0, 3);
    CHECK.due("none by chance 0", x.drawn(0), 0);
    x.chance(3, 3);
    CHECK.due("all by chance 1", x.drawn(0), 32767);
  }

  /** Over x = 0 .. total - 1 each graph comes as often as it weighs. */
  private static void drawnIsFair() {
    RandomModels x = Graphs.of(3, 0);
    x.lean(2, 2);
    int[] count = new int[8];
    int last = 0;
    for (long k = 0; k < 35; k++) {
      x.seed(Seeds.before(2 * k));
      int number = x.drawn(3);
      CHECK.holds("later numbers by greater draws", number >= last);
      last = number;
      count[number]++;
    }
    int[] due = {1, 2, 2, 4, 2, 4, 4, 16};
    for (int number = 0; number < 8; number++) {
      CHECK.due("how often " + number, count[number], due[number]);
    }
  }

  private static void wrong() {
    RandomModels x = Graphs.of(6, 21011);
    RandomModels y = Graphs.of(6, 21011);
    for (int tries : new int[] {-1, 101, Integer.MIN_VALUE, Integer.MAX_VALUE}) {
      CHECK.due("swaps(" + tries + ")", x.swaps(tries), -1);
    }
    for (int model : new int[] {-1, 4, Integer.MIN_VALUE, Integer.MAX_VALUE}) {
      CHECK.due("drawn(" + model + ")", x.drawn(model), -1);
    }
    CHECK.due("nothing changes", x.number(), 21011);
    CHECK.due("nor the seed", x.drawn(0), y.drawn(0));
  }
}
