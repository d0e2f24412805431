/** Promises 21 and 22: blocks, block. */
public final class BlocksTest {
  private static final Check CHECK = new Check();

  public static void main(String[] args) {
    known();
    likeCosts();
    oneAndAll();
    latest();
    wrong();
    everyGraphOfFour();
    CHECK.finish();
  }

  private static void expect(String name, RandomModels x, int k, int cost, int... due) {
    CHECK.due(name + ": blocks(" + k + ")", x.blocks(k), cost);
    for (int node = 0; node < due.length; node++) {
      CHECK.due(name + ": block(" + node + ")", x.block(node), due[node]);
    }
  }

  private static void known() {
    expect("star", Graphs.withEdges(4, 0, 1, 0, 2, 0, 3), 2, 1, 0, 1, 1, 1);
    expect("star with 2 amid", Graphs.withEdges(4, 2, 1, 0, 2, 2, 3), 2, 1, 0, 0, 1, 0);
    expect("path", Graphs.withEdges(3, 0, 1, 1, 2), 2, 1, 0, 1, 0);
    expect("ring of four", Graphs.withEdges(4, 0, 1, 1, 2, 2, 3, 3, 0), 2, 1, 0, 1, 0, 1);
    expect("two triangles", Graphs.withEdges(6, 0, 2, 2, 4, 4, 0, 1, 3, 3, 5, 5, 1), 2, 1, 0, 1, 0, 1, 0, 1);
    // Three nodes and one cost 9. Two and two: only the edges between count, of 4 pairs:
    // 0, 1 and 2, 3: one edge, 4; 0, 2 and 1, 3: three, 4; 0, 3 and 1, 2: two, 6.
    expect("path of four", Graphs.withEdges(4, 0, 1, 1, 2, 2, 3), 2, 4, 0, 0, 1, 1);
  }

  private static void likeCosts() {
    expect("no edges", Graphs.withEdges(6), 2, 1, 0, 0, 0, 0, 0, 1);
    expect("no edges", Graphs.withEdges(6), 3, 1, 0, 0, 0, 0, 1, 2);
    expect("no edges", Graphs.withEdges(4), 3, 1, 0, 0, 1, 2);
    RandomModels whole = Graphs.withEdges(6);
    whole.become(32767);
    expect("all edges", whole, 4, 1, 0, 0, 0, 1, 2, 3);
  }

  private static void oneAndAll() {
    expect("one node", Graphs.withEdges(1), 1, 1, 0);
    RandomModels x = Graphs.withEdges(6);
    int[] due = {1, 15, 105, 455, 1365, 3003, 5005, 6435, 6435, 5005, 3003, 1365, 455, 105, 15, 1};
    for (int m = 0; m <= 15; m++) {
      x.become((1 << m) - 1);
      expect(m + " edges", x, 1, due[m], 0, 0, 0, 0, 0, 0);
      expect(m + " edges", x, 6, 1, 0, 1, 2, 3, 4, 5);
    }
  }

  private static void latest() {
    RandomModels x = Graphs.withEdges(4, 0, 1);
    CHECK.due("none yet", x.block(3), -2);
    CHECK.due("blocks(5)", x.blocks(5), -1);
    CHECK.due("a bad one is none", x.block(3), -2);
    expect("in one", x, 1, 6, 0, 0, 0, 0);
    expect("in four", x, 4, 1, 0, 1, 2, 3);
    CHECK.due("blocks(0)", x.blocks(0), -1);
    CHECK.due("a bad one changes nothing", x.block(3), 3);
    x.become(63);
    x.edge(0, 1, false);
    x.drawn(0);
    x.swaps(3);
    x.label(0, 1);
    CHECK.due("the latest stays as it was", x.block(3), 3);
    x.begin(7);
    CHECK.due("a bad begin changes nothing", x.block(3), 3);
    x.begin(4);
    CHECK.due("none since begin", x.block(3), -2);
  }

  private static void wrong() {
    RandomModels x = Graphs.withEdges(4, 0, 1);
    for (int node : new int[] {-1, 4, 6, Integer.MIN_VALUE, Integer.MAX_VALUE}) {
      CHECK.due("block(" + node + "), none yet", x.block(node), -1);
    }
    x.blocks(2);
    for (int node : new int[] {-1, 4, 6, Integer.MIN_VALUE, Integer.MAX_VALUE}) {
      CHECK.due("block(" + node + ")", x.block(node), -1);
    }
    for (int k : new int[] {-1, 0, 5, 7, Integer.MIN_VALUE, Integer.MAX_VALUE}) {
      CHECK.due("blocks(" + k + ")", x.blocks(k), -1);
    }
  }

  private static void everyGraphOfFour() {
    for (int number = 0; number < 64; number++) {
      RandomModels x = Graphs.withEdges(4);
      Naive naive = new Naive();
      naive.begin(4);
      x.become(number);
      naive.become(number);
      for (int k = 1; k <= 4; k++) {
        CHECK.due("graph " + number + ": blocks(" + k + ")", x.blocks(k), naive.blocks(k));
        for (int node = 0; node < 4; node++) {
          CHECK.due("graph " + number + ": block(" + node + ") of " + k, x.block(node), naive.block(node));
        }
      }
    }
  }
}
