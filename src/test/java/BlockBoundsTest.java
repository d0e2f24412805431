/** The document's sentences on the bounds of blocks() and block(). */
public final class BlockBoundsTest {
  private static final Check CHECK = new Check();

  public static void main(String[] args) {
    oneBlockToAsManyAsNodes();
    noBlockStaysEmpty();
    numberedByLeastNodes();
    withinAndBetween();
    emptyAndFullGraphs();
    likeOnesByNodeOne();
    likeOnesByLaterNodes();
    costGoesBeforeOrder();
    noneBeforeAnyBlocks();
    noneAfterBegin();
    refusedBlocksAreNone();
    latestBlocks();
    blocksOfTheGraphAsItWas();
    nodesOutOfBounds();
    everyWayOfFive();
    someOfSix();
    CHECK.finish();
  }

  private static void expect(String name, RandomModels x, int k, int cost, int... due) {
    CHECK.due(name + ": blocks(" + k + ")", x.blocks(k), cost);
    for (int node = 0; node < due.length; node++) {
      CHECK.due(name + ": block(" + node + ")", x.block(node), due[node]);
    }
  }

  private static int choose(int of, int m) {
    return m == 0 ? 1 : choose(of, m - 1) * (of - m + 1) / m;
  }

  /** "k BLOCKS (1 .. n)": one has all nodes, n have one each. */
  private static void oneBlockToAsManyAsNodes() {
    for (int n = 1; n <= 6; n++) {
      for (int m = 0; m <= Graphs.pairs(n); m++) {
        RandomModels x = Graphs.of(n, (1 << m) - 1);
        CHECK.due("blocks(0)", x.blocks(0), -1);
        CHECK.due("blocks(1)", x.blocks(1), choose(Graphs.pairs(n), m));
        for (int node = 0; node < n; node++) {
          CHECK.due("all in block 0", x.block(node), 0);
        }
        CHECK.due("blocks(n)", x.blocks(n), 1);
        for (int node = 0; node < n; node++) {
          CHECK.due("each in its own", x.block(node), node);
        }
        CHECK.due("blocks(n + 1)", x.blocks(n + 1), -1);
      }
    }
  }

  /** "none of which stays without one": though fewer blocks would cost no more. */
  private static void noBlockStaysEmpty() {
    for (int n = 1; n <= 6; n++) {
      for (int k = 1; k <= n; k++) {
        RandomModels x = Graphs.of(n, 0);
        x.blocks(k);
        boolean[] seen = new boolean[n];
        for (int node = 0; node < n; node++) {
          seen[x.block(node)] = true;
        }
        for (int block = 0; block < n; block++) {
          CHECK.holds(n + " nodes in " + k + ": block " + block, seen[block] == (block < k));
        }
      }
    }
  }

  /** "numbered 0, 1, .. by their least nodes". */
  private static void numberedByLeastNodes() {
    for (int number = 0; number < 32768; number += 37) {
      RandomModels x = Graphs.of(6, number);
      for (int k = 1; k <= 6; k++) {
        x.blocks(k);
        int next = 0;
        for (int node = 0; node < 6; node++) {
          int block = x.block(node);
          CHECK.holds("graph " + number + " in " + k + ": node " + node, block >= 0 && block <= next);
          next = Math.max(next, block + 1);
        }
        CHECK.due("graph " + number + ": so many", next, k);
      }
    }
    // The pair 4, 5 is full, and joined to all else or to nothing: its block is that of node 4.
    expect("the pair is last", Graphs.withEdges(6, 4, 5), 2, 1, 0, 0, 0, 0, 1, 1);
    expect("the pair is first", Graphs.withEdges(6, 0, 1), 2, 1, 0, 0, 1, 1, 1, 1);
    expect("the pair is 0, 5", Graphs.withEdges(6, 0, 5), 2, 1, 0, 1, 1, 1, 1, 0);
  }

  /** "over each BLOCK alone and each two of them, of in how many ways ..". */
  private static void withinAndBetween() {
    // 0, 1, 2 and 3 alone: two of three within, one of three between: 3 times 3.
    // 0, 3 and 1, 2: two of four between, 6. 0, 1 and 2, 3: one of four between, 4.
    RandomModels x = Graphs.withEdges(4, 0, 1, 1, 2, 2, 3);
    expect("within or between", x, 2, 4, 0, 0, 1, 1);
    // In three: 0, 1 has one of two to 2, none to 3.
    expect("in three", x, 3, 2, 0, 0, 1, 2);
    RandomModels ring = Graphs.withEdges(5, 0, 1, 1, 2, 2, 3, 3, 4, 4, 0);
    expect("ring of five in one", ring, 1, 252);
    // 0, 1, 2 have two of three within (3), two of six to 3, 4 (15); 0, 1, 3 have one of three
    // within (3), four of six to 2, 4 (15); 0 alone has two of four, the others three of six (120).
    expect("ring of five in two", ring, 2, 45, 0, 0, 0, 1, 1);
  }

  private static void emptyAndFullGraphs() {
    for (int n = 1; n <= 6; n++) {
      for (int k = 1; k <= n; k++) {
        for (int number : new int[] {0, Graphs.full(n)}) {
          RandomModels x = Graphs.of(n, number);
          CHECK.due("nothing to choose", x.blocks(k), 1);
          for (int node = 0; node < n; node++) {
            CHECK.due(n + " nodes in " + k, x.block(node), Math.max(0, node - (n - k)));
          }
        }
      }
    }
  }

  /** "of like ones that with the lesser BLOCK of node 1". */
  private static void likeOnesByNodeOne() {
    // 0, 1 and 2, 3 cost 4 (one of four between), 0, 2 and 1, 3 cost 4 (three of four).
    expect("a path", Graphs.withEdges(4, 0, 1, 1, 2, 2, 3), 2, 4, 0, 0, 1, 1);
    // One edge: its two nodes apart from the third cost 1; so does no other way.
    expect("one edge", Graphs.withEdges(3, 1, 2), 2, 1, 0, 1, 1);
    expect("three lone nodes", Graphs.of(3, 0), 2, 1, 0, 0, 1);
  }

  /** "then of node 2, and so on". */
  private static void likeOnesByLaterNodes() {
    expect("by node 2", Graphs.of(4, 0), 2, 1, 0, 0, 0, 1);
    expect("by node 2, in three", Graphs.of(4, 0), 3, 1, 0, 0, 1, 2);
    expect("by node 3", Graphs.of(5, 1023), 2, 1, 0, 0, 0, 0, 1);
    expect("by node 4", Graphs.of(6, 32767), 2, 1, 0, 0, 0, 0, 0, 1);
    expect("by node 3, in three", Graphs.of(6, 0), 3, 1, 0, 0, 0, 0, 1, 2);
    // A triangle 0, 1, 2 and three lone nodes: the lone ones may be parted, or the triangle.
    expect("the triangle stays whole", Graphs.withEdges(6, 0, 1, 1, 2, 2, 0), 3, 1, 0, 0, 0, 1, 1, 2);
    expect("the triangle is last", Graphs.withEdges(6, 3, 4, 4, 5, 5, 3), 3, 1, 0, 0, 0, 1, 1, 2);
  }

  /** "of the least COST" comes first: the best way may have the greater block of node 1. */
  private static void costGoesBeforeOrder() {
    expect("star", Graphs.withEdges(4, 0, 1, 0, 2, 0, 3), 2, 1, 0, 1, 1, 1);
    expect("two by two", Graphs.withEdges(4, 0, 1, 1, 2, 2, 3, 3, 0), 2, 1, 0, 1, 0, 1);
    expect("three by three", Graphs.withEdges(6, 0, 1, 0, 3, 0, 5, 2, 1, 2, 3, 2, 5, 4, 1, 4, 3, 4, 5),
        2, 1, 0, 1, 0, 1, 0, 1);
  }

  /** "NONE: there was none since begin()", and before begin() there was none at all. */
  private static void noneBeforeAnyBlocks() {
    CHECK.due("a new object", new RandomModels().block(0), RandomModels.NONE);
    for (int n = 1; n <= 6; n++) {
      RandomModels x = Graphs.of(n, Graphs.full(n));
      x.kinds();
      x.total(0);
      x.swaps(1);
      x.drawn(0);
      for (int node = 0; node < n; node++) {
        CHECK.due("none yet", x.block(node), RandomModels.NONE);
      }
      CHECK.due("no such node", x.block(n), RandomModels.BAD);
    }
  }

  private static void noneAfterBegin() {
    for (int n = 1; n <= 6; n++) {
      for (int then = 1; then <= 6; then++) {
        RandomModels x = Graphs.of(n, 0);
        x.blocks(n);
        CHECK.due("its block", x.block(n - 1), n - 1);
        x.begin(then);
        for (int node = 0; node < then; node++) {
          CHECK.due(n + " nodes, then " + then, x.block(node), RandomModels.NONE);
        }
        CHECK.due(n + " nodes, then " + then, x.block(then), RandomModels.BAD);
        x.blocks(1);
        CHECK.due("there is one again", x.block(then - 1), 0);
      }
    }
  }

  private static void refusedBlocksAreNone() {
    for (int k : new int[] {0, 5, -1, 7, Integer.MIN_VALUE, Integer.MAX_VALUE}) {
      RandomModels x = Graphs.of(4, 45);
      CHECK.due("blocks(" + k + ")", x.blocks(k), RandomModels.BAD);
      CHECK.due("still none", x.block(0), RandomModels.NONE);
      x.blocks(4);
      CHECK.due("blocks(" + k + ")", x.blocks(k), RandomModels.BAD);
      for (int node = 0; node < 4; node++) {
        CHECK.due("still those in four", x.block(node), node);
      }
    }
    for (int n : new int[] {0, 7, Integer.MIN_VALUE, Integer.MAX_VALUE}) {
      RandomModels x = Graphs.of(4, 45);
      x.blocks(4);
      CHECK.due("begin(" + n + ")", x.begin(n), RandomModels.BAD);
      CHECK.due("a refused begin() is none", x.block(3), 3);
    }
  }

  /** "by the latest blocks()". */
  private static void latestBlocks() {
    RandomModels x = Graphs.of(6, 0);
    for (int k : new int[] {6, 1, 2, 5, 3, 4}) {
      x.blocks(k);
      for (int node = 0; node < 6; node++) {
        CHECK.due("in " + k, x.block(node), Math.max(0, node - (6 - k)));
      }
    }
  }

  private static void blocksOfTheGraphAsItWas() {
    RandomModels x = Graphs.withEdges(4, 0, 1, 0, 2, 0, 3);
    expect("star", x, 2, 1, 0, 1, 1, 1);
    x.become(0);
    x.edge(1, 2, true);
    x.label(1, 2);
    x.chance(1, 1);
    x.drawn(0);
    int[] due = {0, 1, 1, 1};
    for (int node = 0; node < 4; node++) {
      CHECK.due("as it was", x.block(node), due[node]);
    }
    expect("asked again", x, 2, 1, 0, 0, 0, 1);
  }

  private static void nodesOutOfBounds() {
    for (int n = 1; n <= 6; n++) {
      for (int node : new int[] {-1, n, 6, Integer.MIN_VALUE, Integer.MAX_VALUE}) {
        RandomModels x = Graphs.of(n, 0);
        CHECK.due("none yet: block(" + node + ")", x.block(node), RandomModels.BAD);
        x.blocks(n);
        CHECK.due("block(" + node + ")", x.block(node), RandomModels.BAD);
      }
    }
  }

  private static void everyWayOfFive() {
    for (int n = 1; n <= 5; n++) {
      for (int number = 0; number <= Graphs.full(n); number++) {
        againstNaive(n, number);
      }
    }
  }

  private static void someOfSix() {
    for (int number = 0; number < 32768; number += 151) {
      againstNaive(6, number);
    }
  }

  private static void againstNaive(int n, int number) {
    RandomModels x = Graphs.of(n, number);
    Naive naive = new Naive();
    naive.begin(n);
    naive.become(number);
    for (int k = 1; k <= n; k++) {
      CHECK.due("graph " + number + ": blocks(" + k + ")", x.blocks(k), naive.blocks(k));
      for (int node = 0; node < n; node++) {
        CHECK.due("graph " + number + ": block(" + node + ") of " + k, x.block(node), naive.block(node));
      }
    }
  }
}
