import java.util.Random;

/** Long random runs, held against the plainest form of the document. */
public final class NaiveRunsTest {
  private static final int[] FAR = {
    Integer.MIN_VALUE, Integer.MAX_VALUE, -2, 16, 64, 1 << 15, (1 << 15) + 1, -32768
  };
  private final Random random;
  private final Check check;
  private final RandomModels real = new RandomModels();
  private final Naive naive = new Naive();
  private final int mostNodes;
  private int nodes = 1;

  private NaiveRunsTest(long seed, int mostNodes, Check check) {
    random = new Random(seed);
    this.mostNodes = mostNodes;
    this.check = check;
  }

  public static void main(String[] args) {
    Check check = new Check();
    for (int run = 0; run < 300 && check.allRight(); run++) {
      new NaiveRunsTest(run, 5, check).run();
    }
    for (int run = 0; run < 6 && check.allRight(); run++) {
      new NaiveRunsTest(-1 - run, 6, check).run();
    }
    check.finish();
  }

  /** An object is good for 512 calls, and each turn makes two. */
  private void run() {
    for (int turn = 0; turn < 256 && check.allRight(); turn++) {
      int kind = random.nextInt(30);
      if (kind < 10) {
        change(kind);
      } else if (kind < 21) {
        sum(kind);
      } else {
        other(kind);
      }
      check.due("number()", real.number(), naive.number());
    }
  }

  /** Mostly within 0 .. most, sometimes one beyond, seldom far away. */
  private int upTo(int most) {
    int dice = random.nextInt(60);
    if (dice == 0) {
      return FAR[random.nextInt(FAR.length)];
    }
    return dice < 4 ? random.nextInt(most + 3) - 1 : random.nextInt(most + 1);
  }

  private int node() {
    return upTo(nodes - 1);
  }

  private int graph() {
    return upTo((1 << (nodes * (nodes - 1) / 2)) - 1);
  }

  private void change(int kind) {
    int a = node();
    int b = node();
    switch (kind) {
      case 0:
        int n = random.nextInt(3) == 0 ? upTo(7) : mostNodes - random.nextInt(Math.min(3, mostNodes));
        n = n == 6 && mostNodes < 6 ? 0 : n;
        int got = real.begin(n);
        check.due("begin(" + n + ")", got, naive.begin(n));
        nodes = got < 0 ? nodes : n;
        break;
      case 1:
        int l = upTo(2);
        check.due("label(" + a + ", " + l + ")", real.label(a, l), naive.label(a, l));
        break;
      case 2:
        int v = upTo(10);
        int u = upTo(Math.max(0, Math.min(v, 10)));
        check.due("chance(" + u + ", " + v + ")", real.chance(u, v), naive.chance(u, v));
        break;
      case 3:
        int s = upTo(3);
        int t = upTo(2);
        check.due("lean(" + s + ", " + t + ")", real.lean(s, t), naive.lean(s, t));
        break;
      case 4:
        int g = graph();
        check.due("become(" + g + ")", real.become(g), naive.become(g));
        break;
      case 5:
        long to = random.nextLong();
        real.seed(to);
        naive.seed(to);
        break;
      default:
        boolean on = random.nextInt(3) > 0;
        check.due("edge(" + a + ", " + b + ", " + on + ")", real.edge(a, b, on), naive.edge(a, b, on));
    }
  }

  private void sum(int kind) {
    int model = upTo(3);
    int what = upTo(7);
    int side = upTo(1);
    int part = upTo(1);
    String asked = model + ", " + what + ", " + side + ", " + part;
    switch (kind) {
      case 10:
        check.due("many(" + model + ")", real.many(model), naive.many(model));
        break;
      case 11:
        check.due("total(" + model + ")", real.total(model), naive.total(model));
        break;
      case 12:
      case 13:
      case 14:
        check.due("odds(" + asked + ")", real.odds(model, what, side, part), naive.odds(model, what, side, part));
        break;
      case 15:
      case 16:
      case 17:
        check.due("mean(" + asked + ")", real.mean(model, what, part), naive.mean(model, what, part));
        break;
      case 18:
      case 19:
        int a = node();
        int b = node();
        check.due("pair(" + model + ", " + a + ", " + b + ", " + part + ")",
            real.pair(model, a, b, part), naive.pair(model, a, b, part));
        break;
      default:
        check.due("likely(" + asked + ")", real.likely(model, part), naive.likely(model, part));
    }
  }

  private void other(int kind) {
    switch (kind) {
      case 21:
      case 22:
        int what = upTo(7);
        check.due("thing(" + what + ")", real.thing(what), naive.thing(what));
        break;
      case 23:
        int g = graph();
        check.due("alike(" + g + ")", real.alike(g), naive.alike(g));
        break;
      case 24:
        check.due("kinds()", real.kinds(), naive.kinds());
        break;
      case 25:
        int tries = upTo(100);
        check.due("swaps(" + tries + ")", real.swaps(tries), naive.swaps(tries));
        break;
      case 26:
        int model = upTo(3);
        check.due("drawn(" + model + ")", real.drawn(model), naive.drawn(model));
        break;
      case 27:
        int k = upTo(nodes);
        check.due("blocks(" + k + ")", real.blocks(k), naive.blocks(k));
        break;
      default:
        int node = node();
        check.due("block(" + node + ")", real.block(node), naive.block(node));
    }
  }
}
