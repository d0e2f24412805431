/** Promises 16 and 17: alike, kinds. */
public final class AlikeTest {
  private static final Check CHECK = new Check();

  public static void main(String[] args) {
    kinds();
    alike();
    wrong();
    classesAddUp();
    CHECK.finish();
  }

  private static void kinds() {
    CHECK.due("one node", Graphs.withEdges(1).kinds(), 1);
    CHECK.due("no edges", Graphs.withEdges(6).kinds(), 1);
    CHECK.due("one edge", Graphs.withEdges(6, 2, 5).kinds(), 15);
    CHECK.due("path of four", Graphs.withEdges(4, 0, 1, 1, 2, 2, 3).kinds(), 12);
    CHECK.due("star of four", Graphs.withEdges(4, 1, 0, 1, 2, 1, 3).kinds(), 4);
    CHECK.due("ring of five", Graphs.withEdges(5, 0, 1, 1, 2, 2, 3, 3, 4, 4, 0).kinds(), 12);
    CHECK.due("ring of six", Graphs.withEdges(6, 0, 1, 1, 2, 2, 3, 3, 4, 4, 5, 5, 0).kinds(), 60);
    CHECK.due("two triangles", Graphs.withEdges(6, 0, 1, 1, 2, 2, 0, 3, 4, 4, 5, 5, 3).kinds(), 10);
    CHECK.due("no two nodes are like", Graphs.withEdges(6, 0, 1, 1, 2, 2, 3, 3, 4, 2, 5, 3, 5).kinds(), 720);
    RandomModels whole = Graphs.withEdges(6);
    whole.become(32767);
    CHECK.due("all edges", whole.kinds(), 1);
    RandomModels labelled = Graphs.withEdges(3, 0, 1);
    labelled.label(0, 1);
    labelled.label(1, 2);
    CHECK.due("labels do not matter", labelled.kinds(), 3);
  }

  private static void alike() {
    RandomModels ring = Graphs.withEdges(6, 0, 1, 1, 2, 2, 3, 3, 4, 4, 5, 5, 0);
    RandomModels crossed = Graphs.withEdges(6, 0, 3, 3, 1, 1, 5, 5, 2, 2, 4, 4, 0);
    RandomModels triangles = Graphs.withEdges(6, 0, 1, 1, 2, 2, 0, 3, 4, 4, 5, 5, 3);
    CHECK.due("itself", ring.alike(ring.number()), 1);
    CHECK.due("another ring", ring.alike(crossed.number()), 1);
    CHECK.due("two triangles have the same degrees", ring.alike(triangles.number()), 0);
    CHECK.due("the other way", triangles.alike(ring.number()), 0);
    CHECK.due("no edges", ring.alike(0), 0);
    CHECK.due("nothing changes", ring.number(), Graphs.withEdges(6, 0, 1, 1, 2, 2, 3, 3, 4, 4, 5, 5, 0).number());
    RandomModels labelled = Graphs.withEdges(3, 0, 1);
    labelled.label(0, 2);
    CHECK.due("labels do not matter", labelled.alike(4), 1);
  }

  private static void wrong() {
    RandomModels x = Graphs.withEdges(3, 0, 1);
    for (int number : new int[] {-1, 8, Integer.MIN_VALUE, Integer.MAX_VALUE}) {
      CHECK.due("alike(" + number + ")", x.alike(number), -1);
    }
    CHECK.due("alike(7)", x.alike(7), 0);
    CHECK.due("alike(1) of one node", new RandomModels().alike(1), -1);
  }

  /** Each graph has kinds() graphs that are alike to it, and there are 34 kinds of five nodes. */
  private static void classesAddUp() {
    int[] due = {0, 1, 2, 4, 11, 34};
    for (int n = 1; n <= 5; n++) {
      int graphs = 1 << n * (n - 1) / 2;
      boolean[] seen = new boolean[graphs];
      int classes = 0;
      for (int number = 0; number < graphs; number++) {
        if (!seen[number]) {
          classes++;
          CHECK.due(n + " nodes, graph " + number + ": kinds()", kindsOf(n, number), mark(n, number, seen));
        }
      }
      CHECK.due("classes of " + n + " nodes", classes, due[n]);
    }
  }

  private static int kindsOf(int n, int number) {
    RandomModels x = Graphs.withEdges(n);
    x.become(number);
    return x.kinds();
  }

  private static int mark(int n, int number, boolean[] seen) {
    RandomModels x = null;
    int count = 0;
    for (int other = 0; other < seen.length; other++) {
      // An object is good for 512 calls.
      if (other % 500 == 0) {
        x = Graphs.withEdges(n);
        x.become(number);
      }
      if (x.alike(other) == 1) {
        seen[other] = true;
        count++;
      }
    }
    return count;
  }
}
