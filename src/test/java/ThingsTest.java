/** Promise 9: thing. */
public final class ThingsTest {
  private static final Check CHECK = new Check();

  public static void main(String[] args) {
    known();
    byLabels();
    wrong();
    everyGraph();
    CHECK.finish();
  }

  private static void expect(String name, RandomModels x, int... due) {
    for (int what = 0; what < due.length; what++) {
      CHECK.due(name + ": thing(" + what + ")", x.thing(what), due[what]);
    }
  }

  private static void known() {
    expect("one node", Graphs.withEdges(1), 0, 0, 0, 1, 0, 0, 1, 0);
    expect("six lone nodes", Graphs.withEdges(6), 0, 0, 0, 6, 0, 0, 6, 0);
    RandomModels whole = Graphs.withEdges(6);
    whole.become(32767);
    expect("all edges", whole, 15, 20, 60, 1, 5, 45, 0, 15);
    expect("ring of six", Graphs.withEdges(6, 0, 1, 1, 2, 2, 3, 3, 4, 4, 5, 5, 0), 6, 0, 6, 1, 2, 0, 0, 6);
    expect("three pairs", Graphs.withEdges(6, 0, 5, 1, 4, 2, 3), 3, 0, 0, 3, 1, 0, 0, 3);
    expect("star", Graphs.withEdges(6, 3, 0, 3, 1, 3, 2, 3, 4), 4, 0, 6, 2, 4, 0, 1, 4);
    expect("long path", Graphs.withEdges(6, 5, 0, 0, 4, 4, 1, 1, 3, 3, 2), 5, 0, 4, 1, 2, 0, 0, 5);
    expect("three by three", Graphs.withEdges(6, 0, 3, 0, 4, 0, 5, 1, 3, 1, 4, 1, 5, 2, 3, 2, 4, 2, 5),
        9, 0, 18, 1, 3, 9, 0, 9);
    expect("triangle and pair", Graphs.withEdges(6, 1, 3, 3, 5, 5, 1, 0, 4), 4, 1, 3, 3, 2, 0, 1, 4);
    expect("four, all edges", Graphs.withEdges(4, 0, 1, 0, 2, 0, 3, 1, 2, 1, 3, 2, 3), 6, 4, 12, 1, 3, 3, 0, 6);
  }

  private static void byLabels() {
    RandomModels x = Graphs.withEdges(4, 0, 1, 1, 2, 2, 3);
    x.label(0, 1);
    CHECK.due("0 differs", x.thing(7), 2);
    x.label(1, 1);
    CHECK.due("0, 1 and 2, 3", x.thing(7), 2);
    x.label(2, 2);
    CHECK.due("0, 1", x.thing(7), 1);
    x.label(3, 2);
    CHECK.due("0, 1 and 2, 3 again", x.thing(7), 2);
    x.edge(0, 1, false);
    CHECK.due("2, 3", x.thing(7), 1);
    CHECK.due("labels do not matter for edges", x.thing(0), 2);
  }

  private static void wrong() {
    RandomModels x = Graphs.withEdges(6, 0, 1);
    for (int what : new int[] {-1, 8, Integer.MIN_VALUE, Integer.MAX_VALUE}) {
      CHECK.due("thing(" + what + ")", x.thing(what), -1);
    }
  }

  private static void everyGraph() {
    Naive naive = new Naive();
    for (int n = 1; n <= 6; n++) {
      RandomModels x = null;
      naive.begin(n);
      for (int number = 0; number < 1 << n * (n - 1) / 2; number++) {
        // An object is good for 512 calls.
        if (number % 50 == 0) {
          x = new RandomModels();
          x.begin(n);
        }
        x.become(number);
        naive.become(number);
        for (int what = 0; what < 8; what++) {
          CHECK.due(n + " nodes, graph " + number + ": thing(" + what + ")", x.thing(what), naive.thing(what));
        }
      }
    }
  }
}
