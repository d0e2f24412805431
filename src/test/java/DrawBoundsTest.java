import java.util.ArrayList;
import java.util.Arrays;
import java.util.List;

/** The document's sentences on the bounds of draws, tries and drawn graphs. */
public final class DrawBoundsTest {
  private static final Check CHECK = new Check();
  private static final long MOST = Long.MAX_VALUE;

  public static void main(String[] args) {
    seedZeroAtFirst();
    seedsOfAnySize();
    itWraps();
    lowestBitAndSign();
    notBelowTheMultiple();
    belowOneAndBelowDivisors();
    againTwice();
    againWithinATry();
    fewerThanTwoEdges();
    twoEdges();
    everyTryOfFourNodes();
    triesOfFullGraphs();
    zeroToAHundredTries();
    threeDrawsATry();
    refusedCallsDrawNothing();
    firstAndLastOfAModel();
    everyGraphOfAModel();
    drawnByTheGraphAsItWas();
    drawnOfOneNode();
    drawnKeepsLabelsAndBlocks();
    CHECK.finish();
  }

  /** Whether the object's seed is a given one, as far as three draws of many bits tell. */
  private static void seedIs(String name, RandomModels x, long seed) {
    RandomModels y = Graphs.of(6, 0);
    y.seed(seed);
    x.begin(6);
    x.chance(1, 2);
    for (int i = 0; i < 3; i++) {
      CHECK.due(name, x.drawn(0), y.drawn(0));
    }
  }

  /** "a SEED s (0 at first)". */
  private static void seedZeroAtFirst() {
    // By 2^15 the first r, 721347520444481703, leaves 16551.
    CHECK.due("first by seed 0", Graphs.of(6, 0).drawn(0), 16551);
    seedIs("at first", new RandomModels(), 0);
    RandomModels x = new RandomModels();
    x.seed(3);
    x.seed(0);
    seedIs("back to 0", x, 0);
  }

  private static void seedsOfAnySize() {
    for (long seed : new long[] {0, 1, -1, MOST, Long.MIN_VALUE, 1L << 32, -(1L << 32)}) {
      RandomModels x = Graphs.of(6, 0);
      x.seed(seed);
      long next = seed;
      for (int i = 0; i < 20; i++) {
        next = Seeds.after(next);
        CHECK.due("seed " + seed + ", draw " + i, x.drawn(0), (next >>> 1) % 32768);
      }
    }
  }

  /** "it wraps": the next one of 2^64 - 1 is by 2^64 too large, and so is that of 2^63. */
  private static void itWraps() {
    RandomModels x = Graphs.of(6, 0);
    x.seed(-1);
    CHECK.due("after the greatest", x.drawn(0), (-4921441182957829598L >>> 1) % 32768);
    x.seed(Long.MIN_VALUE);
    CHECK.due("after 2^63", x.drawn(0), ((1442695040888963407L - MOST - 1) >>> 1) % 32768);
    x.seed(Seeds.before(0));
    CHECK.due("to 0", x.drawn(0), 0);
    x.seed(Seeds.before(-1));
    CHECK.due("to the greatest: again", x.drawn(0), (-4921441182957829598L >>> 1) % 32768);
  }

  /** "s without its lowest bit, half of it, without sign (63 bits)". */
  private static void lowestBitAndSign() {
    RandomModels x = Graphs.of(6, 0);
    for (long r : new long[] {0, 1, 2, 32767, 32768, 1L << 62, (1L << 62) + 5, MOST - 32768}) {
      for (long bit = 0; bit < 2; bit++) {
        x.seed(Seeds.before((r << 1) + bit));
        CHECK.due("r " + r + ", lowest bit " + bit, x.drawn(0), r % 32768);
      }
    }
  }

  /** "if r is not below the greatest multiple of n that is at most 2^63 - 1, again". */
  private static void notBelowTheMultiple() {
    for (int v = 1; v <= 10; v++) {
      for (int n = 2; n <= 6; n++) {
        long total = (long) Math.pow(v, Graphs.pairs(n));
        long multiple = MOST / total * total;
        RandomModels x = Graphs.of(n, 0);
        x.chance(v, v);
        long seed = Seeds.forHalf(multiple - 1);
        x.seed(seed);
        x.drawn(0);
        seedIs("just below, by " + total + ": once", x, Seeds.after(seed));
        x.begin(n);
        x.chance(v, v);
        seed = Seeds.forHalf(multiple);
        x.seed(seed);
        x.drawn(0);
        seedIs("the multiple itself, by " + total + ": again", x, Seeds.after(seed, 2));
      }
    }
    // What is left of the multiple less one is the most: the last graph.
    RandomModels x = Graphs.of(6, 0);
    x.chance(1, 10);
    x.seed(Seeds.forHalf(MOST / 1000000000000000L * 1000000000000000L - 1));
    CHECK.due("just below", x.drawn(0), 32767);
  }

  /** 2^63 - 1 is a multiple of 1 and of 7: no r but itself is refused. */
  private static void belowOneAndBelowDivisors() {
    RandomModels x = new RandomModels();
    long seed = Seeds.forHalf(MOST - 1);
    x.seed(seed);
    CHECK.due("below 1", x.drawn(0), 0);
    seedIs("below 1, r one below: once", x, Seeds.after(seed));
    x.begin(1);
    seed = Seeds.forHalf(MOST);
    x.seed(seed);
    CHECK.due("below 1", x.drawn(0), 0);
    seedIs("below 1, the greatest r: again", x, Seeds.after(seed, 2));
    for (int u = 0; u <= 7; u++) {
      x.begin(2);
      x.chance(u, 7);
      x.seed(Seeds.forHalf(MOST - 1));
      CHECK.due("below 7, r one below: 6 is left", x.drawn(0), u == 0 ? 0 : 1);
      x.seed(Seeds.forHalf(MOST - 7));
      CHECK.due("below 7, r seven below: 0 is left", x.drawn(0), u == 7 ? 1 : 0);
    }
  }

  /** Again is again: two r in a row that are not below the multiple. */
  private static void againTwice() {
    long total = 1000000000000000L;
    long multiple = MOST / total * total;
    long r = multiple;
    long next = Seeds.after(r << 1);
    while (next >>> 1 < multiple) {
      r++;
      next = Seeds.after(r << 1);
    }
    RandomModels x = Graphs.of(6, 0);
    x.chance(1, 10);
    x.seed(Seeds.forHalf(r));
    RandomModels y = Graphs.of(6, 0);
    y.chance(1, 10);
    y.seed(next);
    CHECK.due("the third one counts", x.drawn(0), y.drawn(0));
    seedIs("three steps on", x, Seeds.after(next));
  }

  /** A try's draws are made again, too: below 2 the greatest multiple is 2^63 - 2. */
  private static void againWithinATry() {
    long seed = Seeds.forHalf(MOST - 1);
    RandomModels x = Graphs.of(3, 3);
    x.seed(seed);
    CHECK.due("no four nodes", x.swaps(1), 0);
    seedIs("four steps on", x, Seeds.after(seed, 4));
    seed = Seeds.forHalf(MOST - 2);
    x.begin(3);
    x.become(3);
    x.seed(seed);
    CHECK.due("no four nodes", x.swaps(1), 0);
    seedIs("three steps on", x, Seeds.after(seed, 3));
  }

  /** "A TRY, if there are two EDGES or more": else nothing is drawn. */
  private static void fewerThanTwoEdges() {
    for (int n = 1; n <= 6; n++) {
      for (int p = -1; p < Graphs.pairs(n); p++) {
        int number = p < 0 ? 0 : 1 << p;
        RandomModels x = Graphs.of(n, number);
        x.seed(11);
        CHECK.due("swaps(100) of pair " + p, x.swaps(100), 0);
        CHECK.due("it stays", x.number(), number);
        seedIs("nothing is drawn", x, 11);
      }
    }
  }

  private static void twoEdges() {
    RandomModels x = Graphs.of(3, 5);
    x.seed(11);
    CHECK.due("two edges at a node", x.swaps(1), 0);
    seedIs("three draws", x, Seeds.after(11, 3));
    int from = Graphs.numberOf(0, 1, 2, 3);
    int[][] due = {
      {0, 0, 0, from}, {0, 0, 1, from}, {1, 1, 0, from}, {1, 1, 1, from},
      {0, 1, 0, Graphs.numberOf(0, 3, 2, 1)}, {0, 1, 1, Graphs.numberOf(0, 2, 1, 3)},
      {1, 0, 0, Graphs.numberOf(2, 1, 0, 3)}, {1, 0, 1, Graphs.numberOf(2, 0, 3, 1)}
    };
    int seen = 0;
    for (int[] d : due) {
      for (long seed : Seeds.forTry(2, d[0], d[1], d[2])) {
        x = Graphs.of(4, from);
        x.seed(seed);
        CHECK.due("i " + d[0] + ", j " + d[1] + ", h " + d[2], x.swaps(1), d[3] == from ? 0 : 1);
        CHECK.due("i " + d[0] + ", j " + d[1] + ", h " + d[2], x.number(), d[3]);
        seen++;
      }
    }
    CHECK.due("what two bits of a seed can draw", seen, 4);
  }

  private static List<int[]> edges(int n, int number) {
    List<int[]> edges = new ArrayList<>();
    int p = 0;
    for (int b = 1; b < n; b++) {
      for (int a = 0; a < b; a++) {
        if ((number >> p & 1) == 1) {
          edges.add(new int[] {a, b});
        }
        p++;
      }
    }
    return edges;
  }

  /** Every i, j, h: edges that share a node or are one, either of the new ones being there. */
  private static void everyTryOfFourNodes() {
    int[] ends = new int[6];
    for (int number = 0; number < 64; number++) {
      List<int[]> edges = edges(4, number);
      for (int i = 0; edges.size() > 1 && i < edges.size(); i++) {
        for (int j = 0; j < edges.size(); j++) {
          for (int h = 0; h < 2; h++) {
            oneTry(number, edges, i, j, h, ends);
          }
        }
      }
    }
    String[] names = {"one edge twice", "a node in common", "the first is there", "the second is there",
        "both are there", "done"};
    for (int end = 0; end < ends.length; end++) {
      CHECK.holds("it happened: " + names[end], ends[end] > 0);
    }
  }

  private static void oneTry(int number, List<int[]> edges, int i, int j, int h, int[] ends) {
    int[] one = edges.get(i);
    int[] two = edges.get(j);
    int first = h == 0 ? Graphs.numberOf(one[0], two[1]) : Graphs.numberOf(one[0], two[0]);
    int second = h == 0 ? Graphs.numberOf(two[0], one[1]) : Graphs.numberOf(one[1], two[1]);
    boolean four = one[0] != two[0] && one[0] != two[1] && one[1] != two[0] && one[1] != two[1];
    int there = ((number & first) != 0 ? 1 : 0) + ((number & second) != 0 ? 2 : 0);
    int end = i == j ? 0 : !four ? 1 : there > 0 ? 1 + there : 5;
    int gone = Graphs.numberOf(one[0], one[1], two[0], two[1]);
    String name = "graph " + number + ", i " + i + ", j " + j + ", h " + h;
    for (long seed : Seeds.forTry(edges.size(), i, j, h)) {
      RandomModels x = Graphs.of(4, number);
      x.seed(seed);
      CHECK.due(name, x.swaps(1), end == 5 ? 1 : 0);
      CHECK.due(name, x.number(), end == 5 ? number - gone + first + second : number);
      ends[end]++;
    }
  }

  private static void triesOfFullGraphs() {
    for (int n = 1; n <= 6; n++) {
      RandomModels x = Graphs.of(n, Graphs.full(n));
      CHECK.due("full: swaps(100)", x.swaps(100), 0);
      CHECK.due("full: it stays", x.number(), Graphs.full(n));
    }
    RandomModels star = Graphs.withEdges(6, 2, 0, 2, 1, 2, 3, 2, 4, 2, 5);
    CHECK.due("star: swaps(100)", star.swaps(100), 0);
  }

  /** "So many TRIES (0 .. 100)". */
  private static void zeroToAHundredTries() {
    RandomModels x = Graphs.of(6, 21011);
    x.seed(-5);
    CHECK.due("swaps(0)", x.swaps(0), 0);
    CHECK.due("it stays", x.number(), 21011);
    CHECK.due("swaps(-1)", x.swaps(-1), -1);
    CHECK.due("swaps(101)", x.swaps(101), -1);
    CHECK.due("it stays", x.number(), 21011);
    RandomModels y = Graphs.of(6, 21011);
    y.seed(-5);
    int done = 0;
    for (int i = 0; i < 100; i++) {
      done += y.swaps(1);
    }
    CHECK.due("swaps(100)", x.swaps(100), done);
    CHECK.due("swaps(100): what it makes", x.number(), y.number());
    CHECK.holds("some were done, some not", done > 0 && done < 100);
  }

  private static void threeDrawsATry() {
    for (int tries : new int[] {0, 1, 2, 99, 100}) {
      RandomModels x = Graphs.of(6, 21011);
      x.seed(123456789);
      x.swaps(tries);
      seedIs(tries + " tries", x, Seeds.after(123456789, 3 * tries));
    }
  }

  private static void refusedCallsDrawNothing() {
    for (int far : new int[] {-1, 101, Integer.MIN_VALUE, Integer.MAX_VALUE}) {
      RandomModels x = Graphs.of(6, 21011);
      x.seed(17);
      CHECK.due("swaps(" + far + ")", x.swaps(far), -1);
      CHECK.due("drawn(" + far + ")", x.drawn(far), -1);
      CHECK.due("drawn(4)", x.drawn(4), -1);
      CHECK.due("it stays", x.number(), 21011);
      seedIs("nothing is drawn", x, 17);
    }
  }

  /** "the first one .. with which the WEIGHTS .. are above x": x 0, and the TOTAL less one. */
  private static void firstAndLastOfAModel() {
    for (int n = 1; n <= 6; n++) {
      for (int m = 0; m <= Graphs.pairs(n); m++) {
        int least = (1 << m) - 1;
        int greatest = least << (Graphs.pairs(n) - m);
        ends("as many edges", Graphs.of(n, least), 1, least, greatest);
      }
      ends("any", Graphs.of(n, 0), 0, 0, Graphs.full(n));
      ends("any", Graphs.of(n, 0), 3, 0, Graphs.full(n));
      RandomModels none = Graphs.of(n, 0);
      none.chance(0, 10);
      ends("none", none, 0, 0, 0);
      none.chance(10, 10);
      ends("all", none, 0, Graphs.full(n), Graphs.full(n));
      RandomModels lean = Graphs.of(n, 0);
      lean.lean(3, 2);
      ends("leaning", lean, 3, 0, Graphs.full(n));
    }
    ends("paths", Graphs.withEdges(4, 0, 1, 1, 2, 2, 3), 2,
        Graphs.numberOf(0, 2, 1, 2, 1, 3), Graphs.numberOf(0, 1, 1, 2, 2, 3));
  }

  private static void ends(String name, RandomModels x, int model, int first, int last) {
    long total = x.total(model);
    x.seed(Seeds.forHalf(0));
    CHECK.due(name + ": x 0", x.drawn(model), first);
    CHECK.due(name + ": number()", x.number(), first);
    x.seed(Seeds.forHalf(total - 1));
    CHECK.due(name + ": x " + (total - 1), x.drawn(model), last);
    CHECK.due(name + ": number()", x.number(), last);
    x.seed(Seeds.forHalf(total));
    CHECK.due(name + ": by the total nothing is left", x.drawn(model), first);
  }

  /** Each x below the total: graphs without weight are passed over, the others have their share. */
  private static void everyGraphOfAModel() {
    int[][] asked = {{1, 3, 8, 0}, {2, 5, 2, 1}, {1, 2, 64, 2}, {4, 5, 3, 2}};
    for (int model = 0; model < 4; model++) {
      for (int[] a : asked) {
        int x = 0;
        for (int number = 0; number < 8; number++) {
          long weight = weight(model, number, a);
          for (long i = 0; i < weight; i++) {
            RandomModels y = Graphs.of(3, a[2] % 8);
            y.chance(a[0], a[1]);
            y.lean(1 + a[3], 2);
            y.seed(Seeds.forHalf(x));
            CHECK.due("model " + model + ", x " + x, y.drawn(model), number);
            x++;
          }
        }
      }
    }
  }

  private static long weight(int model, int number, int[] a) {
    int m = Integer.bitCount(number);
    int own = a[2] % 8;
    switch (model) {
      case 0:
        return (long) (Math.pow(a[0], m) * Math.pow(a[1] - a[0], 3 - m));
      case 1:
        return m == Integer.bitCount(own) ? 1 : 0;
      case 2:
        return Arrays.equals(Graphs.degrees(3, number), Graphs.degrees(3, own)) ? 1 : 0;
      default:
        return (long) Math.pow(1 + a[3], m) * (number == 7 ? 2 : 1);
    }
  }

  private static void drawnByTheGraphAsItWas() {
    for (int model = 1; model <= 2; model++) {
      RandomModels x = Graphs.of(6, 21011);
      long total = x.total(model);
      for (int i = 0; i < 100; i++) {
        x.drawn(model);
        CHECK.due("as many edges", x.thing(0), 6);
        CHECK.due("the same total", x.total(model), total);
      }
    }
  }

  private static void drawnOfOneNode() {
    for (int model = 0; model < 4; model++) {
      RandomModels x = new RandomModels();
      CHECK.due("one node: drawn(" + model + ")", x.drawn(model), 0);
      seedIs("one node: a draw below 1 is one", x, Seeds.after(0));
    }
  }

  private static void drawnKeepsLabelsAndBlocks() {
    RandomModels x = Graphs.of(6, 21011);
    for (int node = 0; node < 6; node++) {
      x.label(node, node % 3);
    }
    x.blocks(6);
    for (int model = 0; model < 4; model++) {
      x.drawn(model);
      x.swaps(9);
    }
    for (int node = 0; node < 6; node++) {
      CHECK.due("the latest blocks stay", x.block(node), node);
      CHECK.due("labels stay", x.label(node, 0), node % 3);
    }
  }
}
