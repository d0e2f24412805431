import java.math.BigInteger;
import java.util.ArrayList;
import java.util.Arrays;
import java.util.HashSet;
import java.util.List;
import java.util.Set;

/**
 * The document in the plainest words, to hold RandomModels against: graphs are tables of truths,
 * weights are BigIntegers, and whatever can be tried is tried in full.
 */
final class Naive {
  private static final int BAD = -1;
  private static final int NONE = -2;
  private static final int[][][] THINGS = new int[7][][];
  private static final BigInteger WRAP = BigInteger.ONE.shiftLeft(64);

  private int n = 1;
  private boolean[][] graph = new boolean[1][1];
  private int[] labels = new int[1];
  private int u = 1;
  private int v = 2;
  private int s = 1;
  private int t = 1;
  private BigInteger seed = BigInteger.ZERO;
  private int[] way = null;

  private static int pairsOf(int n) {
    return n * (n - 1) / 2;
  }

  private static int numberOf(boolean[][] g) {
    int number = 0;
    for (int b = 0; b < g.length; b++) {
      for (int a = 0; a < b; a++) {
        if (g[a][b]) {
          number += 1 << (b * (b - 1) / 2 + a);
        }
      }
    }
    return number;
  }

  private static boolean[][] graphOf(int n, int number) {
    boolean[][] g = new boolean[n][n];
    int left = number;
    for (int b = 0; b < n; b++) {
      for (int a = 0; a < b; a++) {
        g[a][b] = left % 2 == 1;
        g[b][a] = g[a][b];
        left /= 2;
      }
    }
    return g;
  }

  private static int degree(boolean[][] g, int node) {
    int count = 0;
    for (boolean on : g[node]) {
      count += on ? 1 : 0;
    }
    return count;
  }

  private static void reach(boolean[][] g, int from, boolean[] seen) {
    if (!seen[from]) {
      seen[from] = true;
      for (int to = 0; to < g.length; to++) {
        if (g[from][to]) {
          reach(g, to, seen);
        }
      }
    }
  }

  private static int[] count(boolean[][] g) {
    int n = g.length;
    int[] things = new int[7];
    boolean[] seen = new boolean[n];
    for (int a = 0; a < n; a++) {
      if (!seen[a]) {
        things[3]++;
        reach(g, a, seen);
      }
      things[4] = Math.max(things[4], degree(g, a));
      things[6] += degree(g, a) == 0 ? 1 : 0;
      for (int b = 0; b < n; b++) {
        things[0] += a < b && g[a][b] ? 1 : 0;
        for (int c = 0; c < n; c++) {
          things[1] += a < b && b < c && g[a][b] && g[b][c] && g[a][c] ? 1 : 0;
          things[2] += a < c && g[a][b] && g[b][c] ? 1 : 0;
          for (int d = 0; d < n; d++) {
            // Each ring once: it begins with its least node and goes round by the lesser side.
            boolean first = a < b && a < c && a < d && b < d && b != c && c != d;
            things[5] += first && g[a][b] && g[b][c] && g[c][d] && g[d][a] ? 1 : 0;
          }
        }
      }
    }
    return things;
  }

  private int thingOf(int number, int what) {
    if (THINGS[n] == null) {
      THINGS[n] = new int[1 << pairsOf(n)][];
      for (int i = 0; i < THINGS[n].length; i++) {
        THINGS[n][i] = count(graphOf(n, i));
      }
    }
    if (what < 7) {
      return THINGS[n][number][what];
    }
    boolean[][] g = graphOf(n, number);
    int count = 0;
    for (int a = 0; a < n; a++) {
      for (int b = 0; b < a; b++) {
        count += g[a][b] && labels[a] == labels[b] ? 1 : 0;
      }
    }
    return count;
  }

  private BigInteger weight(int model, int number) {
    int m = thingOf(number, 0);
    int own = numberOf(graph);
    switch (model) {
      case 0:
        return BigInteger.valueOf(u).pow(m).multiply(BigInteger.valueOf(v - u).pow(pairsOf(n) - m));
      case 1:
        return m == thingOf(own, 0) ? BigInteger.ONE : BigInteger.ZERO;
      case 2:
        boolean[][] g = graphOf(n, number);
        for (int a = 0; a < n; a++) {
          if (degree(g, a) != degree(graph, a)) {
            return BigInteger.ZERO;
          }
        }
        return BigInteger.ONE;
      default:
        return BigInteger.valueOf(s).pow(m).multiply(BigInteger.valueOf(t).pow(thingOf(number, 1)));
    }
  }

  private static long tell(BigInteger above, BigInteger below, int part) {
    BigInteger divisor = above.gcd(below);
    return (part == 0 ? above : below).divide(divisor).longValueExact();
  }

  private BigInteger totalOf(int model) {
    BigInteger all = BigInteger.ZERO;
    for (int i = 0; i < 1 << pairsOf(n); i++) {
      all = all.add(weight(model, i));
    }
    return all;
  }

  int begin(int nodes) {
    if (nodes < 1 || nodes > 6) {
      return BAD;
    }
    n = nodes;
    graph = new boolean[n][n];
    labels = new int[n];
    way = null;
    return pairsOf(n);
  }

  private boolean isPair(int a, int b) {
    return a >= 0 && b >= 0 && a < n && b < n && a != b;
  }

  int edge(int a, int b, boolean on) {
    if (!isPair(a, b)) {
      return BAD;
    }
    int changed = graph[a][b] == on ? 0 : 1;
    graph[a][b] = on;
    graph[b][a] = on;
    return changed;
  }

  int label(int node, int l) {
    if (node < 0 || node >= n || l < 0 || l > 2) {
      return BAD;
    }
    int before = labels[node];
    labels[node] = l;
    return before;
  }

  int chance(int above, int below) {
    if (below < 1 || below > 10 || above < 0 || above > below) {
      return BAD;
    }
    u = above;
    v = below;
    return 1;
  }

  int lean(int byEdge, int byTriangle) {
    if (byEdge < 1 || byEdge > 3 || byTriangle < 1 || byTriangle > 2) {
      return BAD;
    }
    s = byEdge;
    t = byTriangle;
    return 1;
  }

  int number() {
    return numberOf(graph);
  }

  private boolean isGraph(int number) {
    return number >= 0 && number < 1 << pairsOf(n);
  }

  int become(int number) {
    if (!isGraph(number)) {
      return BAD;
    }
    graph = graphOf(n, number);
    return 1;
  }

  int thing(int what) {
    return what < 0 || what > 7 ? BAD : thingOf(numberOf(graph), what);
  }

  private static boolean isModel(int model) {
    return model >= 0 && model <= 3;
  }

  int many(int model) {
    if (!isModel(model)) {
      return BAD;
    }
    int count = 0;
    for (int i = 0; i < 1 << pairsOf(n); i++) {
      count += weight(model, i).signum() > 0 ? 1 : 0;
    }
    return count;
  }

  long total(int model) {
    return isModel(model) ? totalOf(model).longValueExact() : BAD;
  }

  long odds(int model, int what, int side, int part) {
    if (!isModel(model) || what < 0 || what > 7 || (side & ~1) != 0 || (part & ~1) != 0) {
      return BAD;
    }
    int own = thing(what);
    BigInteger sum = BigInteger.ZERO;
    for (int i = 0; i < 1 << pairsOf(n); i++) {
      int its = thingOf(i, what);
      if (its == own || (its > own) == (side == 0)) {
        sum = sum.add(weight(model, i));
      }
    }
    return tell(sum, totalOf(model), part);
  }

  long mean(int model, int what, int part) {
    if (!isModel(model) || what < 0 || what > 7 || (part & ~1) != 0) {
      return BAD;
    }
    BigInteger sum = BigInteger.ZERO;
    for (int i = 0; i < 1 << pairsOf(n); i++) {
      sum = sum.add(weight(model, i).multiply(BigInteger.valueOf(thingOf(i, what))));
    }
    return tell(sum, totalOf(model), part);
  }

  long pair(int model, int a, int b, int part) {
    if (!isModel(model) || !isPair(a, b) || (part & ~1) != 0) {
      return BAD;
    }
    BigInteger sum = BigInteger.ZERO;
    for (int i = 0; i < 1 << pairsOf(n); i++) {
      if (graphOf(n, i)[a][b]) {
        sum = sum.add(weight(model, i));
      }
    }
    return tell(sum, totalOf(model), part);
  }

  long likely(int model, int part) {
    if (!isModel(model) || (part & ~1) != 0) {
      return BAD;
    }
    return tell(weight(model, numberOf(graph)), totalOf(model), part);
  }

  private static void orders(List<Integer> begun, int n, List<List<Integer>> all) {
    if (begun.size() == n) {
      all.add(new ArrayList<>(begun));
    }
    for (int i = 0; i < n; i++) {
      if (!begun.contains(i)) {
        begun.add(i);
        orders(begun, n, all);
        begun.remove(begun.size() - 1);
      }
    }
  }

  private Set<Integer> allAlike() {
    List<List<Integer>> all = new ArrayList<>();
    orders(new ArrayList<>(), n, all);
    Set<Integer> numbers = new HashSet<>();
    for (List<Integer> order : all) {
      boolean[][] other = new boolean[n][n];
      for (int a = 0; a < n; a++) {
        for (int b = 0; b < n; b++) {
          other[order.get(a)][order.get(b)] = graph[a][b];
        }
      }
      numbers.add(numberOf(other));
    }
    return numbers;
  }

  int alike(int number) {
    return !isGraph(number) ? BAD : allAlike().contains(number) ? 1 : 0;
  }

  int kinds() {
    return allAlike().size();
  }

  void seed(long to) {
    seed = BigInteger.valueOf(to).mod(WRAP);
  }

  private long draw(long below) {
    BigInteger bound = BigInteger.valueOf(below);
    BigInteger most = BigInteger.valueOf(Long.MAX_VALUE);
    BigInteger multiple = most.divide(bound).multiply(bound);
    BigInteger r;
    do {
      seed = seed.multiply(new BigInteger("6364136223846793005"))
          .add(new BigInteger("1442695040888963407")).mod(WRAP);
      r = seed.divide(BigInteger.TWO);
    } while (r.compareTo(multiple) >= 0);
    return r.mod(bound).longValueExact();
  }

  int swaps(int tries) {
    if (tries < 0 || tries > 100) {
      return BAD;
    }
    int done = 0;
    for (int i = 0; i < tries; i++) {
      done += tried() ? 1 : 0;
    }
    return done;
  }

  private boolean tried() {
    List<int[]> edges = new ArrayList<>();
    for (int b = 0; b < n; b++) {
      for (int a = 0; a < b; a++) {
        if (graph[a][b]) {
          edges.add(new int[] {a, b});
        }
      }
    }
    if (edges.size() < 2) {
      return false;
    }
    int[] first = edges.get((int) draw(edges.size()));
    int[] second = edges.get((int) draw(edges.size()));
    int h = (int) draw(2);
    Set<Integer> four = new HashSet<>(Arrays.asList(first[0], first[1], second[0], second[1]));
    int[][] fresh = h == 0
        ? new int[][] {{first[0], second[1]}, {second[0], first[1]}}
        : new int[][] {{first[0], second[0]}, {first[1], second[1]}};
    if (four.size() < 4 || graph[fresh[0][0]][fresh[0][1]] || graph[fresh[1][0]][fresh[1][1]]) {
      return false;
    }
    edge(first[0], first[1], false);
    edge(second[0], second[1], false);
    edge(fresh[0][0], fresh[0][1], true);
    edge(fresh[1][0], fresh[1][1], true);
    return true;
  }

  int drawn(int model) {
    if (!isModel(model)) {
      return BAD;
    }
    BigInteger x = BigInteger.valueOf(draw(totalOf(model).longValueExact()));
    BigInteger sum = BigInteger.ZERO;
    int number = -1;
    while (sum.compareTo(x) <= 0) {
      number++;
      sum = sum.add(weight(model, number));
    }
    graph = graphOf(n, number);
    return number;
  }

  private static BigInteger factorial(int i) {
    return i < 2 ? BigInteger.ONE : BigInteger.valueOf(i).multiply(factorial(i - 1));
  }

  private BigInteger cost(int[] put, int k) {
    BigInteger product = BigInteger.ONE;
    for (int x = 0; x < k; x++) {
      for (int y = x; y < k; y++) {
        int all = 0;
        int on = 0;
        for (int b = 0; b < n; b++) {
          for (int a = 0; a < b; a++) {
            if (put[a] == x && put[b] == y || put[a] == y && put[b] == x) {
              all++;
              on += graph[a][b] ? 1 : 0;
            }
          }
        }
        product = product.multiply(
            factorial(all).divide(factorial(on)).divide(factorial(all - on)));
      }
    }
    return product;
  }

  private static boolean isNumberedByLeast(int[] put, int k) {
    int before = -1;
    for (int x = 0; x < k; x++) {
      int least = -1;
      for (int node = put.length - 1; node >= 0; node--) {
        least = put[node] == x ? node : least;
      }
      if (least <= before) {
        return false;
      }
      before = least;
    }
    return true;
  }

  int blocks(int k) {
    if (k < 1 || k > n) {
      return BAD;
    }
    int[] best = null;
    BigInteger least = null;
    int codes = (int) Math.round(Math.pow(k, n));
    for (int code = 0; code < codes; code++) {
      int[] put = new int[n];
      int left = code;
      for (int node = 0; node < n; node++) {
        put[node] = left % k;
        left /= k;
      }
      if (isNumberedByLeast(put, k)) {
        BigInteger cost = cost(put, k);
        int order = least == null ? -1 : cost.compareTo(least);
        if (order < 0 || order == 0 && Arrays.compare(put, best) < 0) {
          least = cost;
          best = put;
        }
      }
    }
    way = best;
    return least.intValueExact();
  }

  int block(int node) {
    return node < 0 || node >= n ? BAD : way == null ? NONE : way[node];
  }
}
