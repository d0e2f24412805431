/** Promises 12 to 15: odds, mean, pair, likely. */
public final class OddsTest {
  private static final Check CHECK = new Check();

  public static void main(String[] args) {
    odds();
    mean();
    pair();
    likely();
    wrong();
    CHECK.finish();
  }

  private static RandomModels ringOfSix() {
    RandomModels x = Graphs.of(6, 0);
    for (int a = 0; a < 6; a++) {
      x.edge(a, (a + 1) % 6, true);
    }
    return x;
  }

  private static void odds(RandomModels x, int model, int what, int side, long above, long below) {
    String call = "odds(" + model + ", " + what + ", " + side + ", ";
    CHECK.due(call + "0)", x.odds(model, what, side, 0), above);
    CHECK.due(call + "1)", x.odds(model, what, side, 1), below);
  }

  private static void mean(RandomModels x, int model, int what, long above, long below) {
    String call = "mean(" + model + ", " + what + ", ";
    CHECK.due(call + "0)", x.mean(model, what, 0), above);
    CHECK.due(call + "1)", x.mean(model, what, 1), below);
  }

  private static void pair(RandomModels x, int model, int a, int b, long above, long below) {
    String call = "pair(" + model + ", " + a + ", " + b + ", ";
    CHECK.due(call + "0)", x.pair(model, a, b, 0), above);
    CHECK.due(call + "1)", x.pair(model, a, b, 1), below);
  }

  private static void likely(RandomModels x, int model, long above, long below) {
    String call = "likely(" + model + ", ";
    CHECK.due(call + "0)", x.likely(model, 0), above);
    CHECK.due(call + "1)", x.likely(model, 1), below);
  }

  private static void odds() {
    RandomModels triangle = Graphs.of(3, 7);
    odds(triangle, 0, 1, 0, 1, 8);
    odds(triangle, 0, 1, 1, 1, 1);
    odds(triangle, 3, 1, 0, 1, 8);
    triangle.lean(1, 2);
    odds(triangle, 3, 1, 0, 2, 9);
    triangle.chance(0, 5);
    odds(triangle, 0, 0, 0, 0, 1);
    RandomModels path = Graphs.of(3, 3);
    odds(path, 0, 0, 0, 1, 2);
    odds(path, 0, 0, 1, 7, 8);
    odds(path, 0, 6, 0, 1, 1);
    odds(path, 0, 6, 1, 1, 2);
    RandomModels counted = Graphs.of(4, 7);
    odds(counted, 1, 1, 0, 1, 5);
    odds(counted, 1, 6, 0, 1, 5);
    odds(counted, 1, 6, 1, 1, 1);
    RandomModels ring = ringOfSix();
    odds(ring, 2, 1, 0, 1, 1);
    odds(ring, 2, 1, 1, 6, 7);
    odds(ring, 2, 3, 1, 6, 7);
    RandomModels labelled = Graphs.of(3, 1);
    labelled.label(2, 1);
    odds(labelled, 0, 7, 0, 1, 2);
    odds(labelled, 0, 7, 1, 1, 1);
  }

  private static void mean() {
    RandomModels x = Graphs.of(4, 0);
    mean(x, 0, 0, 3, 1);
    mean(x, 0, 1, 1, 2);
    mean(x, 0, 2, 3, 1);
    mean(x, 0, 5, 3, 16);
    mean(x, 0, 6, 1, 2);
    mean(x, 1, 0, 0, 1);
    mean(x, 2, 4, 0, 1);
    mean(x, 2, 3, 4, 1);
    x.become(7);
    mean(x, 1, 1, 1, 5);
    x.begin(3);
    x.chance(1, 3);
    mean(x, 0, 0, 1, 1);
    x.lean(1, 2);
    mean(x, 3, 1, 2, 9);
    x.label(0, 2);
    mean(x, 0, 7, 1, 3);
    x.label(1, 1);
    mean(x, 0, 7, 0, 1);
    RandomModels six = Graphs.of(6, 0);
    six.chance(9, 10);
    mean(six, 0, 2, 243, 5);
    six.chance(10, 10);
    mean(six, 0, 2, 60, 1);
    mean(six, 0, 5, 45, 1);
  }

  private static void pair() {
    RandomModels x = Graphs.of(3, 0);
    pair(x, 0, 0, 1, 1, 2);
    pair(x, 1, 0, 1, 0, 1);
    pair(x, 2, 0, 1, 0, 1);
    x.lean(2, 1);
    pair(x, 3, 2, 1, 2, 3);
    x.lean(1, 2);
    pair(x, 3, 1, 2, 5, 9);
    x.chance(4, 6);
    pair(x, 0, 2, 0, 2, 3);
    x.become(4);
    pair(x, 1, 0, 1, 1, 3);
    pair(x, 2, 1, 2, 1, 1);
    pair(x, 2, 0, 2, 0, 1);
    RandomModels ring = ringOfSix();
    pair(ring, 2, 0, 3, 2, 5);
    pair(ring, 2, 1, 0, 2, 5);
    pair(ring, 1, 5, 4, 2, 5);
  }

  private static void likely() {
    RandomModels x = Graphs.of(3, 7);
    likely(x, 0, 1, 8);
    likely(x, 1, 1, 1);
    likely(x, 2, 1, 1);
    likely(x, 3, 1, 8);
    x.chance(1, 3);
    likely(x, 0, 1, 27);
    x.chance(2, 4);
    likely(x, 0, 1, 8);
    x.chance(0, 1);
    likely(x, 0, 0, 1);
    x.lean(3, 2);
    likely(x, 3, 54, 91);
    likely(ringOfSix(), 2, 1, 70);
    likely(ringOfSix(), 1, 1, 5005);
    likely(Graphs.of(1, 0), 0, 1, 1);
  }

  private static void wrong() {
    RandomModels x = Graphs.of(4, 45);
    int[] choices = {-1, 2, Integer.MIN_VALUE, Integer.MAX_VALUE};
    for (int c : choices) {
      CHECK.due("odds: side " + c, x.odds(0, 0, c, 0), -1);
      CHECK.due("odds: part " + c, x.odds(0, 0, 0, c), -1);
      CHECK.due("mean: part " + c, x.mean(0, 0, c), -1);
      CHECK.due("pair: part " + c, x.pair(0, 0, 1, c), -1);
      CHECK.due("likely: part " + c, x.likely(0, c), -1);
    }
    for (int model : new int[] {-1, 4, Integer.MIN_VALUE, Integer.MAX_VALUE}) {
      CHECK.due("odds: model " + model, x.odds(model, 0, 0, 0), -1);
      CHECK.due("mean: model " + model, x.mean(model, 0, 0), -1);
      CHECK.due("pair: model " + model, x.pair(model, 0, 1, 0), -1);
      CHECK.due("likely: model " + model, x.likely(model, 0), -1);
    }
    for (int what : new int[] {-1, 8, Integer.MIN_VALUE, Integer.MAX_VALUE}) {
      CHECK.due("odds: thing " + what, x.odds(0, what, 0, 0), -1);
      CHECK.due("mean: thing " + what, x.mean(0, what, 0), -1);
    }
    int[][] pairs = {{0, 0}, {3, 3}, {0, 4}, {4, 0}, {-1, 0}, {0, -1}, {Integer.MAX_VALUE, 1}};
    for (int[] p : pairs) {
      CHECK.due("pair: " + p[0] + ", " + p[1], x.pair(0, p[0], p[1], 0), -1);
    }
    CHECK.due("nothing changes", x.number(), 45);
  }
}
