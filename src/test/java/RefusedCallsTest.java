import java.util.ArrayList;
import java.util.List;
import java.util.function.IntUnaryOperator;

/**
 * "BAD: a number is out of its bounds; nothing changes": each parameter of each call, below and
 * above its bounds, for every number of nodes. What a refused call must not change is asked for
 * by later calls, and held against an object that has not been called so.
 */
public final class RefusedCallsTest {
  private static final Check CHECK = new Check();

  /** A call that is right but for a value. */
  private interface Call {
    long on(RandomModels x, int nodes, int value);
  }

  private record Parameter(String name, IntUnaryOperator least, IntUnaryOperator greatest, Call call) {}

  public static void main(String[] args) {
    List<Parameter> all = new ArrayList<>();
    ofTheGraph(all);
    ofTheModels(all);
    ofTheOdds(all);
    ofTheRest(all);
    for (Parameter parameter : all) {
      for (int n = 1; n <= 6; n++) {
        refused(parameter, n);
        taken(parameter, n);
      }
    }
    pairsOfOneNodeTwice();
    chanceAboveOne();
    severalAtOnce();
    newObjectStaysNew();
    manyRefusedCalls();
    askingChangesNothing();
    CHECK.finish();
  }

  private static void add(List<Parameter> all, String name, int least, int greatest, Call call) {
    all.add(new Parameter(name, n -> least, n -> greatest, call));
  }

  private static void addByNodes(
      List<Parameter> all, String name, IntUnaryOperator least, IntUnaryOperator greatest, Call call) {
    all.add(new Parameter(name, least, greatest, call));
  }

  private static void ofTheGraph(List<Parameter> all) {
    add(all, "begin: n", 1, 6, (x, n, v) -> x.begin(v));
    addByNodes(all, "edge on: a", n -> 0, n -> n - 2, (x, n, v) -> x.edge(v, n - 1, true));
    addByNodes(all, "edge on: b", n -> 0, n -> n - 2, (x, n, v) -> x.edge(n - 1, v, true));
    addByNodes(all, "edge off: a", n -> 1, n -> n - 1, (x, n, v) -> x.edge(v, 0, false));
    addByNodes(all, "edge off: b", n -> 1, n -> n - 1, (x, n, v) -> x.edge(0, v, false));
    addByNodes(all, "label: node", n -> 0, n -> n - 1, (x, n, v) -> x.label(v, 1));
    add(all, "label: l", 0, 2, (x, n, v) -> x.label(n - 1, v));
    addByNodes(all, "become: number", n -> 0, Graphs::full, (x, n, v) -> x.become(v));
    add(all, "thing: what", 0, 7, (x, n, v) -> x.thing(v));
    addByNodes(all, "alike: number", n -> 0, Graphs::full, (x, n, v) -> x.alike(v));
  }

  private static void ofTheModels(List<Parameter> all) {
    add(all, "chance: v", 1, 10, (x, n, v) -> x.chance(0, v));
    add(all, "chance: v by a u of 1", 1, 10, (x, n, v) -> x.chance(1, v));
    add(all, "chance: v by a u of 5", 5, 10, (x, n, v) -> x.chance(5, v));
    add(all, "chance: v by a u of 10", 10, 10, (x, n, v) -> x.chance(10, v));
    for (int below = 1; below <= 10; below++) {
      int it = below;
      add(all, "chance: u by a v of " + it, 0, it, (x, n, v) -> x.chance(v, it));
    }
    add(all, "lean: s", 1, 3, (x, n, v) -> x.lean(v, 1));
    add(all, "lean: t", 1, 2, (x, n, v) -> x.lean(1, v));
    add(all, "many: model", 0, 3, (x, n, v) -> x.many(v));
    add(all, "total: model", 0, 3, (x, n, v) -> x.total(v));
  }

  private static void ofTheOdds(List<Parameter> all) {
    add(all, "odds: model", 0, 3, (x, n, v) -> x.odds(v, 1, 0, 1));
    add(all, "odds: what", 0, 7, (x, n, v) -> x.odds(1, v, 1, 0));
    add(all, "odds: side", 0, 1, (x, n, v) -> x.odds(2, 1, v, 1));
    add(all, "odds: part", 0, 1, (x, n, v) -> x.odds(3, 0, 1, v));
    add(all, "mean: model", 0, 3, (x, n, v) -> x.mean(v, 7, 1));
    add(all, "mean: what", 0, 7, (x, n, v) -> x.mean(2, v, 0));
    add(all, "mean: part", 0, 1, (x, n, v) -> x.mean(0, 2, v));
    addByNodes(all, "pair: model", n -> 0, n -> n < 2 ? -1 : 3, (x, n, v) -> x.pair(v, n - 1, 0, 1));
    addByNodes(all, "pair: a", n -> 0, n -> n - 2, (x, n, v) -> x.pair(0, v, n - 1, 0));
    addByNodes(all, "pair: b", n -> 1, n -> n - 1, (x, n, v) -> x.pair(1, 0, v, 1));
    addByNodes(all, "pair: part", n -> 0, n -> n < 2 ? -1 : 1, (x, n, v) -> x.pair(3, 0, n - 1, v));
    add(all, "likely: model", 0, 3, (x, n, v) -> x.likely(v, 0));
    add(all, "likely: part", 0, 1, (x, n, v) -> x.likely(2, v));
  }

  private static void ofTheRest(List<Parameter> all) {
    add(all, "swaps: tries", 0, 100, (x, n, v) -> x.swaps(v));
    add(all, "drawn: model", 0, 3, (x, n, v) -> x.drawn(v));
    addByNodes(all, "blocks: k", n -> 1, n -> n, (x, n, v) -> x.blocks(v));
    addByNodes(all, "block: node", n -> 0, n -> n - 1, (x, n, v) -> x.block(v));
  }

  /** Just below and just above, the least and the greatest int, and what wraps into the bounds. */
  private static List<Integer> wrongValues(int least, int greatest) {
    List<Integer> wrong = new ArrayList<>(List.of(least - 1, greatest + 1, least - 2, greatest + 2,
        Integer.MIN_VALUE, Integer.MIN_VALUE + 1, Integer.MAX_VALUE, Integer.MAX_VALUE - 1));
    for (int far : new int[] {8, 16, 32, 64, 256, 1 << 15, 1 << 16, 1 << 30}) {
      wrong.add(least + far);
      wrong.add(greatest - far);
    }
    wrong.removeIf(value -> value >= least && value <= greatest);
    return wrong;
  }

  private static void refused(Parameter parameter, int n) {
    int least = parameter.least().applyAsInt(n);
    int greatest = parameter.greatest().applyAsInt(n);
    List<Long> due = laterAnswers(made(n));
    for (int value : wrongValues(least, greatest)) {
      RandomModels x = made(n);
      String name = n + " nodes, " + parameter.name() + " " + value;
      CHECK.due(name, parameter.call().on(x, n, value), RandomModels.BAD);
      CHECK.holds(name + " changes nothing", laterAnswers(x).equals(due));
    }
  }

  private static void taken(Parameter parameter, int n) {
    int least = parameter.least().applyAsInt(n);
    int greatest = parameter.greatest().applyAsInt(n);
    for (int value = least; value <= greatest; value += Math.max(1, Math.min(greatest - value, greatest / 9))) {
      CHECK.holds(n + " nodes, " + parameter.name() + " " + value + " is in its bounds",
          parameter.call().on(made(n), n, value) >= 0);
    }
  }

  /** An object of which nothing is as it is at first. */
  private static RandomModels made(int n) {
    RandomModels x = Graphs.of(n, 25398 & Graphs.full(n));
    x.blocks((n + 1) / 2);
    x.become(21011 & Graphs.full(n));
    for (int node = 0; node < n; node++) {
      x.label(node, (node * node + 2) % 3);
    }
    x.chance(2, 7);
    x.lean(3, 2);
    x.seed(1000003L * n - 7);
    return x;
  }

  /** What shows nodes, edges, blocks, chance, s and t, seed and labels. */
  private static List<Long> laterAnswers(RandomModels x) {
    List<Long> answers = new ArrayList<>();
    answers.add((long) x.number());
    answers.add((long) x.thing(6));
    for (int node = 0; node <= 6; node++) {
      answers.add((long) x.block(node));
    }
    answers.add(x.total(0));
    answers.add(x.likely(0, 0));
    answers.add(x.total(3));
    answers.add((long) x.thing(7));
    answers.add(x.mean(0, 7, 0));
    for (int i = 0; i < 3; i++) {
      answers.add((long) x.swaps(2));
      answers.add((long) x.number());
      answers.add((long) x.drawn(0));
    }
    for (int node = 0; node <= 6; node++) {
      answers.add((long) x.label(node, 0));
    }
    return answers;
  }

  /** "PAIRS are two different nodes". */
  private static void pairsOfOneNodeTwice() {
    for (int n = 1; n <= 6; n++) {
      List<Long> due = laterAnswers(made(n));
      for (int node = -1; node <= n; node++) {
        RandomModels x = made(n);
        CHECK.due("a node with itself: edge on " + node, x.edge(node, node, true), -1);
        CHECK.due("a node with itself: edge off " + node, x.edge(node, node, false), -1);
        for (int model = 0; model < 4; model++) {
          CHECK.due("a node with itself: pair " + node, x.pair(model, node, node, model % 2), -1);
        }
        CHECK.holds("a node with itself changes nothing", laterAnswers(x).equals(due));
      }
    }
  }

  /** "u 0 .. v": all u and v around their bounds. */
  private static void chanceAboveOne() {
    for (int v = -2; v <= 13; v++) {
      for (int u = -3; u <= 14; u++) {
        boolean right = v >= 1 && v <= 10 && u >= 0 && u <= v;
        RandomModels x = made(2);
        CHECK.due("chance(" + u + ", " + v + ")", x.chance(u, v), right ? 1 : -1);
        CHECK.due("v after chance(" + u + ", " + v + ")", x.total(0), right ? v : 7);
        x.become(1);
        CHECK.due("u after chance(" + u + ", " + v + ")",
            x.likely(0, 0) * (right ? v : 7), x.likely(0, 1) * (right ? u : 2));
      }
    }
  }

  private static void severalAtOnce() {
    for (int far : new int[] {-1, 11, Integer.MIN_VALUE, Integer.MAX_VALUE}) {
      RandomModels x = made(6);
      CHECK.due("edge: all " + far, x.edge(far, far, true), -1);
      CHECK.due("label: all " + far, x.label(far, far), -1);
      CHECK.due("chance: all " + far, x.chance(far, far), -1);
      CHECK.due("lean: all " + far, x.lean(far, far), -1);
      CHECK.due("odds: all " + far, x.odds(far, far, far, far), -1);
      CHECK.due("mean: all " + far, x.mean(far, far, far), -1);
      CHECK.due("pair: all " + far, x.pair(far, far, far, far), -1);
      CHECK.due("likely: all " + far, x.likely(far, far), -1);
      CHECK.holds("all " + far + " change nothing", laterAnswers(x).equals(laterAnswers(made(6))));
    }
  }

  private static void refuseEverything(RandomModels x, int far) {
    x.begin(far);
    x.edge(0, far, true);
    x.label(0, far);
    x.chance(far, 10);
    x.lean(1, far);
    x.become(far);
    x.thing(far);
    x.many(far);
    x.total(far);
    x.odds(0, 0, far, 0);
    x.mean(0, far, 0);
    x.pair(0, 0, far, 0);
    x.likely(0, far);
    x.alike(far);
    x.swaps(far);
    x.drawn(far);
    x.blocks(far);
    x.block(far);
  }

  private static void newObjectStaysNew() {
    for (int far : new int[] {-1, Integer.MIN_VALUE, Integer.MAX_VALUE}) {
      RandomModels x = new RandomModels();
      refuseEverything(x, far);
      RandomModels y = new RandomModels();
      CHECK.holds("a new object stays new", laterAnswers(x).equals(laterAnswers(y)));
      CHECK.due("two nodes", x.begin(2), y.begin(2));
      CHECK.holds("and so it does with two nodes", laterAnswers(x).equals(laterAnswers(y)));
    }
  }

  private static void manyRefusedCalls() {
    for (int n = 1; n <= 6; n++) {
      RandomModels x = made(n);
      for (int i = 0; i < 22; i++) {
        refuseEverything(x, i % 2 == 0 ? -1 - i : 200000 + i);
      }
      CHECK.holds(n + " nodes: 396 refused calls change nothing",
          laterAnswers(x).equals(laterAnswers(made(n))));
    }
  }

  /** The graph with its nodes numbered from the other end: it is alike, and mostly another one. */
  private static int mirrored(int n, int number) {
    int other = 0;
    int p = 0;
    for (int b = 1; b < n; b++) {
      for (int a = 0; a < b; a++) {
        other |= (number >> p & 1) * Graphs.numberOf(n - 1 - a, n - 1 - b);
        p++;
      }
    }
    return other;
  }

  private static void askingChangesNothing() {
    for (int n = 1; n <= 6; n++) {
      RandomModels x = made(n);
      x.number();
      x.kinds();
      x.alike(Graphs.full(n));
      x.alike(mirrored(n, x.number()));
      x.block(0);
      for (int what = 0; what < 8; what++) {
        x.thing(what);
        x.odds(what % 4, what, what % 2, 1);
        x.mean(3 - what % 4, what, 0);
      }
      for (int model = 0; model < 4; model++) {
        x.many(model);
        x.total(model);
        x.pair(model, 0, n - 1, 0);
        x.likely(model, 1);
      }
      CHECK.holds(n + " nodes: asking changes nothing", laterAnswers(x).equals(laterAnswers(made(n))));
    }
  }
}
