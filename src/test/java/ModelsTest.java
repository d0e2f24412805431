/** Promises 5, 6, 10 and 11: chance, lean, many, total. */
public final class ModelsTest {
  private static final Check CHECK = new Check();

  public static void main(String[] args) {
    chance();
    lean();
    many();
    total();
    wrongModels();
    CHECK.finish();
  }

  private static void chance() {
    RandomModels x = Graphs.of(3, 0);
    CHECK.due("1 / 2 at first", x.total(0), 8);
    for (int v = 1; v <= 10; v++) {
      for (int u = 0; u <= v; u++) {
        CHECK.due("chance(" + u + ", " + v + ")", x.chance(u, v), 1);
        CHECK.due("total(0) by " + u + " / " + v, x.total(0), v * v * v);
        CHECK.due("many(0) by " + u + " / " + v, x.many(0), u == 0 || u == v ? 1 : 8);
      }
    }
    x.chance(2, 6);
    int[][] wrong = {{0, 0}, {-1, 5}, {6, 5}, {1, 11}, {0, -1}, {-1, -1}, {11, 11}, {1, Integer.MAX_VALUE}};
    for (int[] w : wrong) {
      CHECK.due("chance(" + w[0] + ", " + w[1] + ")", x.chance(w[0], w[1]), -1);
    }
    CHECK.due("bad chances change nothing", x.total(0), 216);
    CHECK.due("the weight is u^m (v - u)^(P - m)", x.likely(0, 0), 8);
    CHECK.due("by v^P", x.likely(0, 1), 27);
  }

  private static void lean() {
    RandomModels x = Graphs.of(3, 0);
    CHECK.due("1, 1 at first", x.total(3), 8);
    int[][] due = {{1, 1, 8}, {2, 1, 27}, {3, 1, 64}, {1, 2, 9}, {2, 2, 35}, {3, 2, 91}};
    for (int[] d : due) {
      CHECK.due("lean(" + d[0] + ", " + d[1] + ")", x.lean(d[0], d[1]), 1);
      CHECK.due("total(3) by " + d[0] + ", " + d[1], x.total(3), d[2]);
    }
    int[][] wrong = {{0, 1}, {4, 1}, {1, 0}, {1, 3}, {-1, -1}, {Integer.MAX_VALUE, 1}, {1, Integer.MIN_VALUE}};
    for (int[] w : wrong) {
      CHECK.due("lean(" + w[0] + ", " + w[1] + ")", x.lean(w[0], w[1]), -1);
    }
    CHECK.due("bad leans change nothing", x.total(3), 91);
    CHECK.due("nor the chance", x.total(0), 8);
  }

  private static void many() {
    for (int model = 0; model < 4; model++) {
      CHECK.due("one node: many(" + model + ")", Graphs.of(1, 0).many(model), 1);
      CHECK.due("one node: total(" + model + ")", Graphs.of(1, 0).total(model), 1);
    }
    RandomModels x = Graphs.of(6, 0);
    long[] empty = {32768, 1, 1, 32768};
    for (int model = 0; model < 4; model++) {
      CHECK.due("no edges: many(" + model + ")", x.many(model), empty[model]);
    }
    // 0, 1 and 2, 3 and 4, 5: the ways to pair six nodes up are 15.
    x.edge(0, 1, true);
    x.edge(2, 3, true);
    x.edge(4, 5, true);
    CHECK.due("three of 15 pairs", x.many(1), 455);
    CHECK.due("pairings", x.many(2), 15);
    x.chance(0, 7);
    CHECK.due("only the empty one", x.many(0), 1);
    x.chance(7, 7);
    CHECK.due("only the whole one", x.many(0), 1);
  }

  private static void total() {
    RandomModels x = Graphs.of(6, 127);
    CHECK.due("2^15", x.total(0), 32768);
    CHECK.due("7 of 15", x.total(1), 6435);
    CHECK.due("2^15", x.total(3), 32768);
    x.chance(10, 10);
    CHECK.due("10^15", x.total(0), 1000000000000000L);
    x.chance(0, 10);
    CHECK.due("10^15", x.total(0), 1000000000000000L);
    x.lean(3, 1);
    CHECK.due("4^15", x.total(3), 1L << 30);
    x.lean(3, 2);
    CHECK.due("s 3, t 2", x.total(3), 21106443649879L);
    x.lean(2, 1);
    CHECK.due("3^15", x.total(3), 14348907);
    x.become(32767);
    CHECK.due("all edges, by degrees", x.total(2), 1);
    RandomModels one = Graphs.of(1, 0);
    one.chance(0, 3);
    CHECK.due("0^0 is 1", one.total(0), 1);
    one.chance(3, 3);
    CHECK.due("0^0 is 1", one.total(0), 1);
  }

  private static void wrongModels() {
    RandomModels x = Graphs.of(4, 45);
    for (int model : new int[] {-1, 4, Integer.MIN_VALUE, Integer.MAX_VALUE}) {
      CHECK.due("many(" + model + ")", x.many(model), -1);
      CHECK.due("total(" + model + ")", x.total(model), -1);
    }
  }
}
