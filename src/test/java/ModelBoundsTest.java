import java.math.BigInteger;

/** The document's sentences on the bounds of models, weights and fractions. */
public final class ModelBoundsTest {
  private static final Check CHECK = new Check();

  public static void main(String[] args) {
    chanceOneHalfAtFirst();
    leanOneOneAtFirst();
    everyChance();
    nothingToThePowerOfNothing();
    chanceIsNotMadeLess();
    everyLean();
    leanByEdgesAndTriangles();
    countedByEveryNumberOfEdges();
    countedFollowsTheGraph();
    degreesOfEmptyAndFull();
    degreesAreOfEachNode();
    modelsZeroToThree();
    greatestWeights();
    nothingIsNothingByOne();
    allIsOneByOne();
    lowestTerms();
    orMoreAndOrLess();
    oddsOfLeastAndMost();
    meansOfEmptyAndFull();
    pairsOfEmptyAndFull();
    likelyOfEmptyAndFull();
    CHECK.finish();
  }

  private static BigInteger power(int base, int exponent) {
    return BigInteger.valueOf(base).pow(exponent);
  }

  private static void told(String name, long above, long below, BigInteger dueAbove, BigInteger dueBelow) {
    BigInteger divisor = dueAbove.gcd(dueBelow);
    CHECK.due(name + ", above", above, dueAbove.divide(divisor).longValueExact());
    CHECK.due(name + ", below", below, dueBelow.divide(divisor).longValueExact());
  }

  private static void likely(String name, RandomModels x, int model, BigInteger above, BigInteger below) {
    told(name + ": likely(" + model + ")", x.likely(model, 0), x.likely(model, 1), above, below);
  }

  private static void odds(RandomModels x, int model, int what, int side, long above, long below) {
    String call = "odds(" + model + ", " + what + ", " + side + ", ";
    CHECK.due(call + "0)", x.odds(model, what, side, 0), above);
    CHECK.due(call + "1)", x.odds(model, what, side, 1), below);
  }

  private static void mean(RandomModels x, int model, int what, long above, long below) {
    String call = "mean(" + model + ", " + what + ", ";
    CHECK.due(call + "0)", x.mean(model, what, 0), above);
    CHECK.due(call + "1)", x.mean(model, what, 1), below);
  }

  private static void pair(RandomModels x, int model, int a, int b, long above, long below) {
    String call = "pair(" + model + ", " + a + ", " + b + ", ";
    CHECK.due(call + "0)", x.pair(model, a, b, 0), above);
    CHECK.due(call + "1)", x.pair(model, a, b, 1), below);
  }

  /** "1 / 2 at first". */
  private static void chanceOneHalfAtFirst() {
    for (int n = 1; n <= 6; n++) {
      RandomModels x = Graphs.of(n, 0);
      CHECK.due("at first: total(0)", x.total(0), 1L << Graphs.pairs(n));
      CHECK.due("at first: many(0)", x.many(0), 1L << Graphs.pairs(n));
      if (n > 1) {
        pair(x, 0, 0, n - 1, 1, 2);
      }
    }
  }

  /** "s, t: 1, 1 at first". */
  private static void leanOneOneAtFirst() {
    for (int n = 1; n <= 6; n++) {
      RandomModels x = Graphs.of(n, Graphs.full(n));
      CHECK.due("at first: total(3)", x.total(3), 1L << Graphs.pairs(n));
      likely("at first", x, 3, BigInteger.ONE, power(2, Graphs.pairs(n)));
    }
  }

  /** "v 1 .. 10, u 0 .. v": each weight is u^m (v - u)^(P - m), the total v^P. */
  private static void everyChance() {
    for (int v = 1; v <= 10; v++) {
      for (int u = 0; u <= v; u++) {
        for (int n = 1; n <= 4; n++) {
          everyChance(n, u, v);
        }
        RandomModels six = Graphs.of(6, 127);
        six.chance(u, v);
        CHECK.due("six nodes by " + u + " / " + v, six.total(0), power(v, 15).longValueExact());
        CHECK.due("six nodes by " + u + " / " + v, six.many(0), u == 0 || u == v ? 1 : 32768);
        likely("seven of 15 by " + u + " / " + v, six, 0, power(u, 7).multiply(power(v - u, 8)), power(v, 15));
      }
    }
  }

  private static void everyChance(int n, int u, int v) {
    int most = Graphs.pairs(n);
    for (int m = 0; m <= most; m++) {
      RandomModels x = Graphs.of(n, (1 << m) - 1);
      CHECK.due("chance(" + u + ", " + v + ")", x.chance(u, v), 1);
      CHECK.due("total by " + u + " / " + v, x.total(0), power(v, most).longValueExact());
      CHECK.due("many by " + u + " / " + v, x.many(0), u == 0 || u == v ? 1 : 1 << most);
      likely(m + " edges by " + u + " / " + v, x, 0, power(u, m).multiply(power(v - u, most - m)), power(v, most));
    }
  }

  /** "0^0 is 1": without edges by chance 0, with all by chance 1, and with no pairs at all. */
  private static void nothingToThePowerOfNothing() {
    for (int n = 1; n <= 6; n++) {
      RandomModels x = Graphs.of(n, 0);
      x.chance(0, 1);
      CHECK.due("0 / 1: total", x.total(0), 1);
      likely("0 / 1, empty", x, 0, BigInteger.ONE, BigInteger.ONE);
      CHECK.due("0 / 1: drawn", x.drawn(0), 0);
      x.become(Graphs.full(n));
      likely("0 / 1, full", x, 0, n == 1 ? BigInteger.ONE : BigInteger.ZERO, BigInteger.ONE);
      x.chance(1, 1);
      CHECK.due("1 / 1: total", x.total(0), 1);
      likely("1 / 1, full", x, 0, BigInteger.ONE, BigInteger.ONE);
      CHECK.due("1 / 1: drawn", x.drawn(0), Graphs.full(n));
      x.become(0);
      likely("1 / 1, empty", x, 0, n == 1 ? BigInteger.ONE : BigInteger.ZERO, BigInteger.ONE);
    }
  }

  /** The chance becomes u / v as it is given: 5 / 10 weighs otherwise than 1 / 2, for like odds. */
  private static void chanceIsNotMadeLess() {
    RandomModels x = Graphs.of(3, 1);
    x.chance(5, 10);
    CHECK.due("total by 5 / 10", x.total(0), 1000);
    likely("by 5 / 10", x, 0, BigInteger.ONE, BigInteger.valueOf(8));
    x.chance(10, 10);
    CHECK.due("total by 10 / 10", x.total(0), 1000);
    x.chance(0, 10);
    CHECK.due("total by 0 / 10", x.total(0), 1000);
  }

  /** "s (1 .. 3), t (1 .. 2)". */
  private static void everyLean() {
    int[][] due = {{8, 9}, {27, 35}, {64, 91}};
    for (int s = 0; s <= 4; s++) {
      for (int t = 0; t <= 3; t++) {
        boolean right = s >= 1 && s <= 3 && t >= 1 && t <= 2;
        RandomModels x = Graphs.of(3, 0);
        x.lean(2, 2);
        CHECK.due("lean(" + s + ", " + t + ")", x.lean(s, t), right ? 1 : -1);
        CHECK.due("total after lean(" + s + ", " + t + ")", x.total(3), right ? due[s - 1][t - 1] : 35);
      }
    }
  }

  /** "s^m t^k". */
  private static void leanByEdgesAndTriangles() {
    for (int s = 1; s <= 3; s++) {
      for (int t = 1; t <= 2; t++) {
        for (int n = 1; n <= 6; n++) {
          RandomModels x = Graphs.of(n, 0);
          x.lean(s, t);
          BigInteger total = BigInteger.valueOf(x.total(3));
          likely("empty", x, 3, BigInteger.ONE, total);
          x.become(Graphs.full(n));
          int triangles = n * (n - 1) * (n - 2) / 6;
          likely("full", x, 3, power(s, Graphs.pairs(n)).multiply(power(t, triangles)), total);
          CHECK.due("every graph weighs", x.many(3), 1 << Graphs.pairs(n));
          if (t == 1) {
            CHECK.due("(1 + s)^P", x.total(3), power(1 + s, Graphs.pairs(n)).longValueExact());
          }
        }
      }
    }
  }

  /** "1, if it has as many EDGES as the GRAPH, else 0". */
  private static void countedByEveryNumberOfEdges() {
    long[] due = {1, 15, 105, 455, 1365, 3003, 5005, 6435, 6435, 5005, 3003, 1365, 455, 105, 15, 1};
    for (int m = 0; m <= 15; m++) {
      RandomModels x = Graphs.of(6, (1 << m) - 1);
      CHECK.due(m + " edges: many(1)", x.many(1), due[m]);
      CHECK.due(m + " edges: total(1)", x.total(1), due[m]);
      pair(x, 1, 0, 5, m / gcd(m, 15), 15 / gcd(m, 15));
      mean(x, 1, 0, m, 1);
    }
  }

  private static int gcd(int a, int b) {
    return b == 0 ? a : gcd(b, a % b);
  }

  private static void countedFollowsTheGraph() {
    RandomModels x = Graphs.of(4, 0);
    CHECK.due("no edges", x.total(1), 1);
    x.edge(2, 3, true);
    CHECK.due("one edge", x.total(1), 6);
    x.edge(2, 3, true);
    CHECK.due("it was so", x.total(1), 6);
    x.become(63);
    CHECK.due("all edges", x.total(1), 1);
    x.edge(0, 1, false);
    CHECK.due("all but one", x.total(1), 6);
    x.begin(3);
    CHECK.due("none again", x.total(1), 1);
  }

  private static void degreesOfEmptyAndFull() {
    for (int n = 1; n <= 6; n++) {
      for (int number : new int[] {0, Graphs.full(n)}) {
        RandomModels x = Graphs.of(n, number);
        CHECK.due("many(2)", x.many(2), 1);
        CHECK.due("total(2)", x.total(2), 1);
        CHECK.due("drawn(2)", x.drawn(2), number);
        likely("alone", x, 2, BigInteger.ONE, BigInteger.ONE);
      }
    }
  }

  /** "each node has the DEGREE that it has in the GRAPH": it is not enough that the same occur. */
  private static void degreesAreOfEachNode() {
    RandomModels star = Graphs.withEdges(4, 1, 0, 1, 2, 1, 3);
    CHECK.due("stars with other nodes amid do not count", star.many(2), 1);
    RandomModels path = Graphs.withEdges(4, 0, 1, 1, 2, 2, 3);
    CHECK.due("0, 1, 2, 3 and 0, 2, 1, 3", path.many(2), 2);
    pair(path, 2, 1, 2, 1, 1);
    pair(path, 2, 0, 2, 1, 2);
    pair(path, 2, 0, 3, 0, 1);
    RandomModels ring = Graphs.withEdges(6, 0, 1, 1, 2, 2, 3, 3, 4, 4, 5, 5, 0);
    CHECK.due("60 rings of six, 10 of three and three", ring.many(2), 70);
  }

  private static void modelsZeroToThree() {
    RandomModels x = Graphs.of(4, 45);
    long[] due = {64, 15, 3, 64};
    for (int model = 0; model < 4; model++) {
      CHECK.due("many(" + model + ")", x.many(model), due[model]);
      CHECK.due("total(" + model + ")", x.total(model), due[model]);
    }
    for (int model : new int[] {-1, 4}) {
      CHECK.due("many(" + model + ")", x.many(model), -1);
      CHECK.due("total(" + model + ")", x.total(model), -1);
    }
  }

  /** The greatest chances, leans and things together are told without loss. */
  private static void greatestWeights() {
    RandomModels x = Graphs.of(6, 32767);
    x.chance(10, 10);
    CHECK.due("10^15", x.total(0), 1000000000000000L);
    mean(x, 0, 2, 60, 1);
    mean(x, 0, 5, 45, 1);
    x.chance(9, 10);
    likely("9 / 10", x, 0, power(9, 15), power(10, 15));
    pair(x, 0, 4, 5, 9, 10);
    mean(x, 0, 1, 729, 50);
    mean(x, 0, 2, 243, 5);
    mean(x, 0, 5, 59049, 2000);
    x.lean(3, 2);
    CHECK.due("s 3, t 2", x.total(3), 21106443649879L);
    likely("s 3, t 2", x, 3, power(3, 15).multiply(power(2, 20)), BigInteger.valueOf(21106443649879L));
  }

  /** "0 is 0 / 1". */
  private static void nothingIsNothingByOne() {
    RandomModels x = Graphs.of(6, 32767);
    x.chance(0, 10);
    odds(x, 0, 0, 0, 0, 1);
    mean(x, 0, 0, 0, 1);
    pair(x, 0, 0, 5, 0, 1);
    likely("by chance 0", x, 0, BigInteger.ZERO, BigInteger.ONE);
    x.become(0);
    x.chance(7, 7);
    odds(x, 0, 0, 1, 0, 1);
    odds(x, 0, 3, 0, 0, 1);
    mean(x, 0, 6, 0, 1);
    likely("by chance 1", x, 0, BigInteger.ZERO, BigInteger.ONE);
    mean(x, 1, 0, 0, 1);
    mean(x, 2, 5, 0, 1);
    pair(x, 1, 5, 4, 0, 1);
    pair(x, 2, 1, 0, 0, 1);
    RandomModels unlike = Graphs.of(2, 1);
    unlike.label(0, 1);
    mean(unlike, 3, 7, 0, 1);
  }

  private static void allIsOneByOne() {
    RandomModels x = Graphs.of(5, 1023);
    x.chance(6, 6);
    odds(x, 0, 0, 0, 1, 1);
    odds(x, 0, 0, 1, 1, 1);
    pair(x, 0, 3, 4, 1, 1);
    pair(x, 1, 3, 4, 1, 1);
    pair(x, 2, 3, 4, 1, 1);
    likely("certain", x, 0, BigInteger.ONE, BigInteger.ONE);
    likely("certain", x, 1, BigInteger.ONE, BigInteger.ONE);
    likely("certain", x, 2, BigInteger.ONE, BigInteger.ONE);
    mean(x, 0, 3, 1, 1);
  }

  /** "part 0 above, 1 below, in lowest terms". */
  private static void lowestTerms() {
    RandomModels x = Graphs.of(2, 1);
    for (int v = 1; v <= 10; v++) {
      for (int u = 1; u <= v; u++) {
        x.chance(u, v);
        pair(x, 0, 0, 1, u / gcd(u, v), v / gcd(u, v));
      }
    }
    RandomModels four = Graphs.of(4, 0);
    mean(four, 0, 0, 3, 1);
    mean(four, 0, 5, 3, 16);
    four.chance(4, 10);
    mean(four, 0, 0, 12, 5);
    CHECK.due("part -1", four.mean(0, 0, -1), -1);
    CHECK.due("part 2", four.mean(0, 0, 2), -1);
  }

  /** "as much of a THING as the GRAPH, or more (side 0), or less (1)": its own amount is in both. */
  private static void orMoreAndOrLess() {
    int[] choose = {1, 6, 15, 20, 15, 6, 1};
    for (int m = 0; m <= 6; m++) {
      RandomModels x = Graphs.of(4, (1 << m) - 1);
      int more = 0;
      int less = 0;
      for (int i = 0; i <= 6; i++) {
        more += i >= m ? choose[i] : 0;
        less += i <= m ? choose[i] : 0;
      }
      odds(x, 0, 0, 0, more / gcd(more, 64), 64 / gcd(more, 64));
      odds(x, 0, 0, 1, less / gcd(less, 64), 64 / gcd(less, 64));
    }
    RandomModels x = Graphs.of(4, 7);
    CHECK.due("side -1", x.odds(0, 0, -1, 0), -1);
    CHECK.due("side 2", x.odds(0, 0, 2, 0), -1);
  }

  private static void oddsOfLeastAndMost() {
    for (int n = 2; n <= 6; n++) {
      int graphs = 1 << Graphs.pairs(n);
      for (int what = 0; what < 8; what++) {
        // Parts and lone nodes are most in the empty graph, all else in the full one.
        boolean mostIfEmpty = what == 3 || what == 6;
        RandomModels most = Graphs.of(n, mostIfEmpty ? 0 : graphs - 1);
        RandomModels least = Graphs.of(n, mostIfEmpty ? graphs - 1 : 0);
        odds(least, 0, what, 0, 1, 1);
        odds(most, 3, what, 1, 1, 1);
      }
      odds(Graphs.of(n, graphs - 1), 0, 0, 0, 1, graphs);
      odds(Graphs.of(n, 0), 0, 0, 1, 1, graphs);
      odds(Graphs.of(n, 0), 0, 3, 0, 1, graphs);
      odds(Graphs.of(n, 0), 0, 6, 0, 1, graphs);
      odds(Graphs.of(n, 0), 0, 4, 1, 1, graphs);
      odds(Graphs.of(n, graphs - 1), 0, 7, 0, 1, graphs);
    }
  }

  private static void meansOfEmptyAndFull() {
    for (int n = 1; n <= 6; n++) {
      RandomModels empty = Graphs.of(n, 0);
      RandomModels full = Graphs.of(n, Graphs.full(n));
      for (int what = 0; what < 8; what++) {
        mean(empty, 1, what, empty.thing(what), 1);
        mean(empty, 2, what, empty.thing(what), 1);
        mean(full, 1, what, full.thing(what), 1);
        mean(full, 2, what, full.thing(what), 1);
      }
    }
  }

  private static void pairsOfEmptyAndFull() {
    for (int n = 2; n <= 6; n++) {
      for (int b = 1; b < n; b++) {
        for (int a = 0; a < b; a++) {
          pair(Graphs.of(n, 0), 1, a, b, 0, 1);
          pair(Graphs.of(n, 0), 2, b, a, 0, 1);
          pair(Graphs.of(n, Graphs.full(n)), 1, b, a, 1, 1);
          pair(Graphs.of(n, Graphs.full(n)), 2, a, b, 1, 1);
        }
      }
    }
  }

  private static void likelyOfEmptyAndFull() {
    for (int n = 1; n <= 6; n++) {
      for (int number : new int[] {0, Graphs.full(n)}) {
        RandomModels x = Graphs.of(n, number);
        for (int model = 0; model < 4; model++) {
          likely("one of all", x, model, BigInteger.ONE, BigInteger.valueOf(x.total(model)));
        }
        CHECK.due("likely: part -1", x.likely(0, -1), -1);
        CHECK.due("likely: part 2", x.likely(0, 2), -1);
      }
    }
  }
}
