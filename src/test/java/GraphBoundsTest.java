/** The document's sentences on where nodes, pairs, labels, graphs and things begin and end. */
public final class GraphBoundsTest {
  private static final Check CHECK = new Check();

  public static void main(String[] args) {
    oneNodeAtFirst();
    noBlocksAtFirst();
    oneToSixNodes();
    beginTakesEdgesLabelsAndBlocks();
    beginWithFewerNodesAndMore();
    beginKeepsChanceLeanAndSeed();
    pairsInEitherOrder();
    pairsAreNumbered();
    itWasSo();
    labelsZeroToTwo();
    labelsOfEachNode();
    graphsZeroToTheFullOne();
    labelsStay();
    thingsOfTheEmptyGraph();
    thingsOfTheFullGraph();
    wedgesHaveOneNodeInCommon();
    squaresMayHaveDiagonals();
    partsOfOneNodeAndMore();
    alikeWithinTheBounds();
    likeDegreesAreNotEnough();
    kindsOfTheEmptyAndTheFullGraph();
    labelsDoNotMatter();
    CHECK.finish();
  }

  /** "One node." With it there are no pairs, and there is one graph. */
  private static void oneNodeAtFirst() {
    RandomModels x = new RandomModels();
    CHECK.due("one node: number()", x.number(), 0);
    CHECK.due("one node: become(0)", x.become(0), 1);
    CHECK.due("one node: become(1)", x.become(1), -1);
    CHECK.due("one node: edge(0, 0)", x.edge(0, 0, true), -1);
    CHECK.due("one node: edge(0, 1)", x.edge(0, 1, true), -1);
    CHECK.due("one node: edge(1, 0)", x.edge(1, 0, false), -1);
    CHECK.due("one node: label(0, 0)", x.label(0, 0), 0);
    CHECK.due("one node: label(1, 0)", x.label(1, 0), -1);
    CHECK.due("one node: kinds()", x.kinds(), 1);
    CHECK.due("one node: alike(0)", x.alike(0), 1);
    CHECK.due("one node: alike(1)", x.alike(1), -1);
    CHECK.due("one node: pair(0, 0, 0, 0)", x.pair(0, 0, 0, 0), -1);
    CHECK.due("one node: pair(0, 0, 1, 0)", x.pair(0, 0, 1, 0), -1);
    CHECK.due("one node: swaps(100)", x.swaps(100), 0);
    for (int model = 0; model < 4; model++) {
      CHECK.due("one node: many(" + model + ")", x.many(model), 1);
      CHECK.due("one node: total(" + model + ")", x.total(model), 1);
      CHECK.due("one node: likely(" + model + ", 0)", x.likely(model, 0), 1);
      CHECK.due("one node: likely(" + model + ", 1)", x.likely(model, 1), 1);
      CHECK.due("one node: drawn(" + model + ")", x.drawn(model), 0);
    }
    int[] due = {0, 0, 0, 1, 0, 0, 1, 0};
    for (int what = 0; what < 8; what++) {
      CHECK.due("one node: thing(" + what + ")", x.thing(what), due[what]);
      CHECK.due("one node: mean above", x.mean(what % 4, what, 0), due[what]);
      CHECK.due("one node: mean below", x.mean(what % 4, what, 1), 1);
      for (int side = 0; side < 2; side++) {
        CHECK.due("one node: odds above", x.odds(what % 4, what, side, 0), 1);
        CHECK.due("one node: odds below", x.odds(what % 4, what, side, 1), 1);
      }
    }
  }

  private static void noBlocksAtFirst() {
    RandomModels x = new RandomModels();
    CHECK.due("none at first", x.block(0), RandomModels.NONE);
    CHECK.due("no such node", x.block(1), RandomModels.BAD);
    CHECK.due("blocks(1) of one node", x.blocks(1), 1);
    CHECK.due("blocks(2) of one node", x.blocks(2), -1);
    CHECK.due("its block", x.block(0), 0);
  }

  /** "NODES 0 .. n - 1 (1 .. 6)", and how many pairs there are. */
  private static void oneToSixNodes() {
    int[] pairs = {0, 0, 1, 3, 6, 10, 15};
    CHECK.due("begin(0)", new RandomModels().begin(0), -1);
    CHECK.due("begin(7)", new RandomModels().begin(7), -1);
    for (int n = 1; n <= 6; n++) {
      RandomModels x = new RandomModels();
      CHECK.due("begin(" + n + ")", x.begin(n), pairs[n]);
      CHECK.due(n + " lone nodes", x.thing(6), n);
      CHECK.due("the first node", x.label(0, 0), 0);
      CHECK.due("the last node", x.label(n - 1, 0), 0);
      CHECK.due("before the first node", x.label(-1, 0), -1);
      CHECK.due("after the last node", x.label(n, 0), -1);
      CHECK.due("in as many blocks as nodes", x.blocks(n), 1);
      CHECK.due("in one block more", x.blocks(n + 1), -1);
    }
  }

  /** "no EDGES, LABELS 0", and none of blocks(). */
  private static void beginTakesEdgesLabelsAndBlocks() {
    for (int n = 1; n <= 6; n++) {
      RandomModels x = Graphs.of(n, Graphs.full(n));
      for (int node = 0; node < n; node++) {
        x.label(node, 2);
      }
      x.blocks(n);
      x.begin(n);
      CHECK.due("begin: no edges", x.number(), 0);
      for (int node = 0; node < n; node++) {
        CHECK.due("begin: none of blocks()", x.block(node), -2);
        CHECK.due("begin: label 0", x.label(node, 1), 0);
      }
    }
  }

  private static void beginWithFewerNodesAndMore() {
    RandomModels x = Graphs.of(6, 32767);
    for (int node = 0; node < 6; node++) {
      x.label(node, 1 + node % 2);
    }
    x.blocks(6);
    CHECK.due("fewer: begin(3)", x.begin(3), 3);
    CHECK.due("fewer: none of blocks()", x.block(2), -2);
    CHECK.due("fewer: no node 3", x.block(3), -1);
    CHECK.due("fewer: the last graph", x.become(7), 1);
    CHECK.due("fewer: no more graphs", x.become(8), -1);
    CHECK.due("fewer: no node 3 for an edge", x.edge(2, 3, true), -1);
    CHECK.due("fewer: blocks(4)", x.blocks(4), -1);
    CHECK.due("fewer: edges of like labels", x.thing(7), 3);
    CHECK.due("more: begin(6)", x.begin(6), 15);
    CHECK.due("more: no edges", x.number(), 0);
    for (int node = 0; node < 6; node++) {
      CHECK.due("more: label 0", x.label(node, 0), 0);
    }
    CHECK.due("more: all graphs again", x.become(32767), 1);
    CHECK.due("more: edges of like labels", x.thing(7), 15);
  }

  /** begin() says nothing of the chance, s, t and the seed. */
  private static void beginKeepsChanceLeanAndSeed() {
    RandomModels x = new RandomModels();
    x.chance(3, 5);
    x.lean(2, 2);
    x.seed(Seeds.forHalf(8));
    for (int n = 6; n >= 2; n--) {
      x.begin(n);
    }
    CHECK.due("v stays", x.total(0), 5);
    CHECK.due("u stays", x.pair(0, 0, 1, 0), 3);
    CHECK.due("s stays", x.total(3), 3);
    CHECK.due("the seed stays: 8 by 5 is 3, past the empty graph's 2", x.drawn(0), 1);
    x.begin(3);
    CHECK.due("t stays", x.total(3), 35);
  }

  private static void pairsInEitherOrder() {
    for (int n = 2; n <= 6; n++) {
      for (int b = 1; b < n; b++) {
        for (int a = 0; a < b; a++) {
          RandomModels x = Graphs.of(n, 0);
          CHECK.due("on by a, b", x.edge(a, b, true), 1);
          CHECK.due("by b, a it was so", x.edge(b, a, true), 0);
          CHECK.due("the same odds", x.pair(2, a, b, 0), 1);
          CHECK.due("the same odds by b, a", x.pair(2, b, a, 0), 1);
          CHECK.due("off by b, a", x.edge(b, a, false), 1);
          CHECK.due("by a, b it was so", x.edge(a, b, false), 0);
          CHECK.due("no odds", x.pair(2, a, b, 0), 0);
          CHECK.due("no odds by b, a", x.pair(2, b, a, 0), 0);
        }
      }
    }
  }

  /** "with the number b (b - 1) / 2 + a", and "the sum of 2^p over all PAIRS p that are EDGES". */
  private static void pairsAreNumbered() {
    int[][] due = {
      {0, 1}, {0, 2}, {1, 2}, {0, 3}, {1, 3}, {2, 3}, {0, 4}, {1, 4}, {2, 4}, {3, 4},
      {0, 5}, {1, 5}, {2, 5}, {3, 5}, {4, 5}
    };
    RandomModels x = Graphs.of(6, 0);
    int sum = 0;
    for (int p = 0; p < due.length; p++) {
      x.edge(due[p][1], due[p][0], true);
      sum += 1 << p;
      CHECK.due("the first " + (p + 1) + " pairs", x.number(), sum);
    }
    for (int p = 0; p < due.length; p++) {
      x.become(1 << p);
      CHECK.due("pair " + p + " alone", x.edge(due[p][0], due[p][1], false), 1);
      CHECK.due("and no other", x.number(), 0);
    }
  }

  /** "1; 0: it was so". */
  private static void itWasSo() {
    RandomModels x = Graphs.of(6, 32767);
    CHECK.due("on, full graph", x.edge(4, 5, true), 0);
    CHECK.due("it stays", x.number(), 32767);
    CHECK.due("off", x.edge(4, 5, false), 1);
    CHECK.due("off", x.number(), 16383);
    CHECK.due("off again", x.edge(4, 5, false), 0);
    CHECK.due("it stays", x.number(), 16383);
    x.become(0);
    CHECK.due("off, empty graph", x.edge(0, 1, false), 0);
    CHECK.due("it stays", x.number(), 0);
    CHECK.due("on", x.edge(0, 1, true), 1);
    CHECK.due("on", x.number(), 1);
  }

  /** "a LABEL 0 .. 2": the answer is what it was. */
  private static void labelsZeroToTwo() {
    RandomModels x = Graphs.of(2, 1);
    int before = 0;
    for (int l : new int[] {0, 1, 1, 2, 0, 2, 2, 1, 0}) {
      CHECK.due("label(1, " + l + ")", x.label(1, l), before);
      CHECK.due("label(1, -1)", x.label(1, -1), -1);
      CHECK.due("label(1, 3)", x.label(1, 3), -1);
      CHECK.due("like that of node 0", x.thing(7), l == 0 ? 1 : 0);
      before = l;
    }
    for (int l = 0; l < 3; l++) {
      for (int other = 0; other < 3; other++) {
        x.label(0, l);
        x.label(1, other);
        CHECK.due("labels " + l + ", " + other, x.thing(7), l == other ? 1 : 0);
      }
    }
  }

  private static void labelsOfEachNode() {
    RandomModels x = Graphs.of(6, 32767);
    for (int node = 0; node < 6; node++) {
      x.label(node, node % 3);
    }
    for (int node = 0; node < 6; node++) {
      CHECK.due("label of node " + node, x.label(node, node % 3), node % 3);
    }
    CHECK.due("0, 3 and 1, 4 and 2, 5", x.thing(7), 3);
    x.label(5, 0);
    CHECK.due("0, 3, 5 and 1, 4", x.thing(7), 4);
    x.become(Graphs.numberOf(0, 5, 1, 5, 2, 5));
    CHECK.due("0, 5 alone is an edge", x.thing(7), 1);
  }

  /** "0 .. 2^P - 1". */
  private static void graphsZeroToTheFullOne() {
    int[] graphs = {0, 1, 2, 8, 64, 1024, 32768};
    for (int n = 1; n <= 6; n++) {
      RandomModels x = Graphs.of(n, 0);
      CHECK.due("the full one", x.become(graphs[n] - 1), 1);
      CHECK.due("its number", x.number(), graphs[n] - 1);
      CHECK.due("its edges", x.thing(0), n * (n - 1) / 2);
      CHECK.due("beyond it", x.become(graphs[n]), -1);
      CHECK.due("below the empty one", x.become(-1), -1);
      CHECK.due("still the full one", x.number(), graphs[n] - 1);
      CHECK.due("the empty one", x.become(0), 1);
      CHECK.due("its number", x.number(), 0);
      CHECK.due("beyond the full one", x.become(graphs[n]), -1);
      CHECK.due("still the empty one", x.number(), 0);
    }
  }

  /** "LABELS stay". */
  private static void labelsStay() {
    RandomModels x = Graphs.of(4, 0);
    x.label(0, 1);
    x.label(3, 2);
    x.become(63);
    CHECK.due("label of node 0", x.label(0, 1), 1);
    CHECK.due("label of node 1", x.label(1, 0), 0);
    CHECK.due("label of node 3", x.label(3, 2), 2);
    CHECK.due("1, 2 alone are like", x.thing(7), 1);
    x.become(0);
    CHECK.due("label of node 3", x.label(3, 2), 2);
  }

  private static void thingsOfTheEmptyGraph() {
    for (int n = 1; n <= 6; n++) {
      RandomModels x = Graphs.of(n, 0);
      int[] due = {0, 0, 0, n, 0, 0, n, 0};
      for (int what = 0; what < 8; what++) {
        CHECK.due("empty, " + n + " nodes: thing(" + what + ")", x.thing(what), due[what]);
      }
      CHECK.due("thing(-1)", x.thing(-1), -1);
      CHECK.due("thing(8)", x.thing(8), -1);
    }
  }

  private static void thingsOfTheFullGraph() {
    for (int n = 1; n <= 6; n++) {
      RandomModels x = Graphs.of(n, Graphs.full(n));
      int pairs = n * (n - 1) / 2;
      int triples = pairs * (n - 2) / 3;
      int fours = triples * (n - 3) / 4;
      int[] due = {pairs, triples, 3 * triples, 1, n - 1, 3 * fours, n == 1 ? 1 : 0, pairs};
      for (int what = 0; what < 8; what++) {
        CHECK.due("full, " + n + " nodes: thing(" + what + ")", x.thing(what), due[what]);
      }
    }
  }

  /** "two EDGES with one node in common": those of a triangle count as well. */
  private static void wedgesHaveOneNodeInCommon() {
    CHECK.due("one edge", Graphs.withEdges(4, 0, 1).thing(2), 0);
    CHECK.due("two apart", Graphs.withEdges(4, 0, 1, 2, 3).thing(2), 0);
    CHECK.due("two at a node", Graphs.withEdges(4, 0, 1, 1, 3).thing(2), 1);
    CHECK.due("a triangle", Graphs.withEdges(4, 0, 1, 1, 3, 0, 3).thing(2), 3);
    CHECK.due("a star of six", Graphs.withEdges(6, 5, 0, 5, 1, 5, 2, 5, 3, 5, 4).thing(2), 10);
  }

  /** "rings of four EDGES over four nodes". */
  private static void squaresMayHaveDiagonals() {
    CHECK.due("three of four edges", Graphs.withEdges(4, 0, 1, 1, 2, 2, 3).thing(5), 0);
    CHECK.due("a ring", Graphs.withEdges(4, 0, 1, 1, 2, 2, 3, 3, 0).thing(5), 1);
    CHECK.due("a crossed ring", Graphs.withEdges(4, 0, 2, 2, 1, 1, 3, 3, 0).thing(5), 1);
    CHECK.due("with a diagonal", Graphs.withEdges(4, 0, 1, 1, 2, 2, 3, 3, 0, 0, 2).thing(5), 1);
    CHECK.due("with both", Graphs.of(4, 63).thing(5), 3);
    CHECK.due("a ring of five", Graphs.withEdges(5, 0, 1, 1, 2, 2, 3, 3, 4, 4, 0).thing(5), 0);
    CHECK.due("a triangle with a tail", Graphs.withEdges(4, 0, 1, 1, 2, 2, 0, 2, 3).thing(5), 0);
  }

  /** "PARTS that do not hang together": a lone node is one. */
  private static void partsOfOneNodeAndMore() {
    CHECK.due("a pair, four lone", Graphs.withEdges(6, 0, 5).thing(3), 5);
    CHECK.due("two triangles", Graphs.withEdges(6, 0, 2, 2, 4, 4, 0, 1, 3, 3, 5, 5, 1).thing(3), 2);
    CHECK.due("joined by an edge", Graphs.withEdges(6, 0, 2, 2, 4, 4, 0, 1, 3, 3, 5, 5, 1, 4, 5).thing(3), 1);
    CHECK.due("the longest path", Graphs.withEdges(6, 0, 5, 5, 1, 1, 4, 4, 2, 2, 3).thing(3), 1);
    CHECK.due("five nodes full, one lone", Graphs.of(6, 1023).thing(3), 2);
  }

  private static void alikeWithinTheBounds() {
    for (int n = 1; n <= 6; n++) {
      int full = Graphs.full(n);
      RandomModels x = Graphs.of(n, full);
      CHECK.due("full to full", x.alike(full), 1);
      CHECK.due("full to empty", x.alike(0), n == 1 ? 1 : 0);
      CHECK.due("full to one beyond", x.alike(full + 1), -1);
      CHECK.due("full to one below", x.alike(-1), -1);
      x.become(0);
      CHECK.due("empty to empty", x.alike(0), 1);
      CHECK.due("empty to full", x.alike(full), n == 1 ? 1 : 0);
      CHECK.due("alike() changes nothing", x.number(), 0);
    }
  }

  /** "if the nodes of one can be numbered so that it is the other one". */
  private static void likeDegreesAreNotEnough() {
    RandomModels ring = Graphs.withEdges(6, 0, 1, 1, 2, 2, 3, 3, 4, 4, 5, 5, 0);
    int other = Graphs.numberOf(0, 2, 2, 4, 4, 1, 1, 5, 5, 3, 3, 0);
    CHECK.due("two triangles", ring.alike(Graphs.numberOf(0, 1, 1, 2, 2, 0, 3, 4, 4, 5, 5, 3)), 0);
    CHECK.due("another ring", ring.alike(other), 1);
    CHECK.due("it does not become that", ring.number(), Graphs.numberOf(0, 1, 1, 2, 2, 3, 3, 4, 4, 5, 5, 0));
  }

  /** "it, too": one, where every numbering is the same graph. */
  private static void kindsOfTheEmptyAndTheFullGraph() {
    for (int n = 1; n <= 6; n++) {
      CHECK.due("empty: kinds()", Graphs.of(n, 0).kinds(), 1);
      CHECK.due("full: kinds()", Graphs.of(n, Graphs.full(n)).kinds(), 1);
      if (n > 1) {
        CHECK.due("first edge alone: kinds()", Graphs.of(n, 1).kinds(), n * (n - 1) / 2);
        CHECK.due("last edge alone: kinds()", Graphs.of(n, (Graphs.full(n) + 1) / 2).kinds(), n * (n - 1) / 2);
        CHECK.due("all but the last: kinds()", Graphs.of(n, Graphs.full(n) / 2).kinds(), n * (n - 1) / 2);
      }
    }
    CHECK.due("no two nodes are like: 6!", Graphs.withEdges(6, 0, 1, 1, 2, 2, 3, 3, 4, 2, 5, 3, 5).kinds(), 720);
  }

  /** "LABELS do not matter". */
  private static void labelsDoNotMatter() {
    RandomModels x = Graphs.withEdges(4, 0, 1, 1, 2);
    for (int node = 0; node < 3; node++) {
      x.label(node, node);
    }
    CHECK.due("the same path on other nodes", x.alike(Graphs.numberOf(0, 3, 3, 2)), 1);
    CHECK.due("two edges apart", x.alike(Graphs.numberOf(0, 1, 2, 3)), 0);
    CHECK.due("kinds()", x.kinds(), 12);
  }
}
