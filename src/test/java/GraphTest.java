/** Promises 1 to 4, 7 and 8: a new object, begin, edge, label, number, become. */
public final class GraphTest {
  private static final Check CHECK = new Check();

  public static void main(String[] args) {
    newObject();
    begin();
    beginKeepsTheRest();
    edge();
    label();
    numberAndBecome();
    CHECK.finish();
  }

  private static void newObject() {
    RandomModels x = new RandomModels();
    CHECK.due("new: number()", x.number(), 0);
    CHECK.due("new: parts", x.thing(3), 1);
    CHECK.due("new: lone", x.thing(6), 1);
    CHECK.due("new: become(1)", x.become(1), -1);
    CHECK.due("new: label(1, 0)", x.label(1, 0), -1);
    CHECK.due("new: label(0, 0)", x.label(0, 0), 0);
    CHECK.due("new: block(0)", x.block(0), -2);
    CHECK.due("new: block(1)", x.block(1), -1);
    CHECK.due("new: total(0)", x.total(0), 1);
    CHECK.due("BAD", RandomModels.BAD, -1);
    CHECK.due("NONE", RandomModels.NONE, -2);
  }

  private static void begin() {
    RandomModels x = new RandomModels();
    int[] pairs = {0, 0, 1, 3, 6, 10, 15};
    for (int n = 1; n <= 6; n++) {
      CHECK.due("begin(" + n + ")", x.begin(n), pairs[n]);
      CHECK.due("begin: lone", x.thing(6), n);
      CHECK.due("begin: number()", x.number(), 0);
    }
    x.become(32767);
    x.label(5, 2);
    x.blocks(2);
    int[] wrong = {0, 7, -1, Integer.MIN_VALUE, Integer.MAX_VALUE};
    for (int n : wrong) {
      CHECK.due("begin(" + n + ")", x.begin(n), -1);
    }
    CHECK.due("bad begin keeps edges", x.number(), 32767);
    CHECK.due("bad begin keeps labels", x.label(5, 2), 2);
    CHECK.due("bad begin keeps blocks", x.block(0), 0);
    CHECK.due("begin(6) again", x.begin(6), 15);
    CHECK.due("begin takes edges", x.number(), 0);
    CHECK.due("begin takes labels", x.label(5, 0), 0);
    CHECK.due("begin takes blocks", x.block(0), -2);
    x.label(4, 2);
    x.begin(2);
    x.begin(5);
    CHECK.due("begin takes labels of all nodes", x.label(4, 1), 0);
  }

  private static void beginKeepsTheRest() {
    RandomModels x = new RandomModels();
    x.chance(1, 3);
    x.lean(3, 2);
    x.seed(5);
    x.begin(3);
    CHECK.due("begin keeps the chance", x.total(0), 27);
    CHECK.due("begin keeps s and t", x.total(3), 91);
    RandomModels y = new RandomModels();
    y.begin(3);
    y.chance(1, 3);
    y.seed(5);
    for (int i = 0; i < 20; i++) {
      CHECK.due("begin keeps the seed", x.drawn(0), y.drawn(0));
    }
  }

  private static void edge() {
    RandomModels x = new RandomModels();
    CHECK.due("edge(0, 0) of one node", x.edge(0, 0, true), -1);
    CHECK.due("edge(0, 1) of one node", x.edge(0, 1, true), -1);
    x.begin(6);
    int p = 0;
    for (int b = 1; b < 6; b++) {
      for (int a = 0; a < b; a++) {
        String pair = a + ", " + b;
        CHECK.due("edge off " + pair, x.edge(a, b, false), 0);
        CHECK.due("edge on " + pair, x.edge(a, b, true), 1);
        CHECK.due("edge on again " + pair, x.edge(b, a, true), 0);
        CHECK.due("number with " + pair, x.number(), 1 << p);
        CHECK.due("edge off " + pair, x.edge(b, a, false), 1);
        CHECK.due("number without " + pair, x.number(), 0);
        p++;
      }
    }
    x.become(21011);
    int[][] wrong = {{0, 0}, {5, 5}, {0, 6}, {6, 0}, {-1, 0}, {0, -1}, {6, 7}, {Integer.MAX_VALUE, 0}};
    for (int[] w : wrong) {
      CHECK.due("edge on " + w[0] + ", " + w[1], x.edge(w[0], w[1], true), -1);
      CHECK.due("edge off " + w[0] + ", " + w[1], x.edge(w[0], w[1], false), -1);
    }
    CHECK.due("bad edges change nothing", x.number(), 21011);
  }

  private static void label() {
    RandomModels x = new RandomModels();
    x.begin(3);
    CHECK.due("label(2, 2)", x.label(2, 2), 0);
    CHECK.due("label(2, 1)", x.label(2, 1), 2);
    CHECK.due("label(2, 3)", x.label(2, 3), -1);
    CHECK.due("label(2, -1)", x.label(2, -1), -1);
    CHECK.due("label(3, 0)", x.label(3, 0), -1);
    CHECK.due("label(-1, 0)", x.label(-1, 0), -1);
    CHECK.due("label(2, 1), nothing changed", x.label(2, 1), 1);
    x.become(7);
    CHECK.due("edges of like labels", x.thing(7), 1);
    CHECK.due("labels stay", x.label(2, 1), 1);
  }

  private static void numberAndBecome() {
    RandomModels x = new RandomModels();
    CHECK.due("become(0)", x.become(0), 1);
    x.begin(4);
    x.label(3, 2);
    CHECK.due("become(63)", x.become(63), 1);
    CHECK.due("number()", x.number(), 63);
    CHECK.due("become(64)", x.become(64), -1);
    CHECK.due("become(-1)", x.become(-1), -1);
    CHECK.due("become(min)", x.become(Integer.MIN_VALUE), -1);
    CHECK.due("bad numbers change nothing", x.number(), 63);
    CHECK.due("become(32)", x.become(32), 1);
    CHECK.due("32 is the edge 2, 3", x.edge(2, 3, false), 1);
    CHECK.due("number()", x.number(), 0);
    CHECK.due("labels stay", x.label(3, 0), 2);
    x.begin(6);
    CHECK.due("become(32767)", x.become(32767), 1);
    CHECK.due("become(32768)", x.become(32768), -1);
  }
}
