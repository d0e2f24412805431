/**
 * A small graph held against chance: all graphs with as many nodes, weighed by four models.
 *
 * A graph is held as its number: bit p is set, if pair p is an edge. Every call that looks at all
 * graphs counts through these numbers and makes no objects.
 */
public final class RandomModels {
  public static final int BAD = -1, NONE = -2;

  private static final int MOST_NODES = 6;
  private static final int MOST_PAIRS = 15;
  private static final int LABELS = 3;
  private static final int MOST_CHANCE = 10;
  private static final int MOST_S = 3;
  private static final int MOST_T = 2;
  private static final int MOST_TRIES = 100;

  private static final int THINGS = 8;
  private static final int EDGES = 0;
  private static final int TRIANGLES = 1;
  private static final int WEDGES = 2;
  private static final int PARTS = 3;
  private static final int GREATEST_DEGREE = 4;
  private static final int SQUARES = 5;
  private static final int LONE = 6;

  private static final int MODELS = 4;
  private static final int FREE = 0;
  private static final int DEGREES = 2;
  private static final int LEANING = 3;

  private static final int OR_MORE = 0;
  private static final int ABOVE = 0;

  private final Pairs pairs;
  private final Things things;
  private final Weights weights;
  private final Dice dice;
  private final Renumbering renumbering;
  private final Ways ways;
  private final int[] labels;
  private int nodes;
  private int graphs;
  private int graph;

  public RandomModels() {
    pairs = new Pairs();
    things = new Things(pairs);
    weights = new Weights(things);
    dice = new Dice();
    renumbering = new Renumbering();
    ways = new Ways(pairs);
    labels = new int[MOST_NODES];
    nodes = 1;
    graphs = 1;
    graph = 0;
  }

  public int begin(int n) {
    if (n < 1 || n > MOST_NODES) {
      return BAD;
    }
    nodes = n;
    graphs = 1 << Pairs.among(n);
    graph = 0;
    for (int node = 0; node < MOST_NODES; node++) {
      labels[node] = 0;
    }
    things.setAlikeLabels(pairs.ofLikeLabels(labels));
    ways.forget();
    return Pairs.among(n);
  }

  public int edge(int a, int b, boolean on) {
    if (!isPair(a, b)) {
      return BAD;
    }
    int bit = 1 << Pairs.indexOf(a, b);
    int wanted = on ? graph | bit : graph & ~bit;
    int changed = wanted == graph ? 0 : 1;
    graph = wanted;
    return changed;
  }

  public int label(int node, int l) {
    if (!isNode(node) || l < 0 || l >= LABELS) {
      return BAD;
    }
    int before = labels[node];
    labels[node] = l;
    things.setAlikeLabels(pairs.ofLikeLabels(labels));
    return before;
  }

  public int chance(int u, int v) {
    if (v < 1 || v > MOST_CHANCE || u < 0 || u > v) {
      return BAD;
    }
    weights.setChance(u, v);
    return 1;
  }

  public int lean(int s, int t) {
    if (s < 1 || s > MOST_S || t < 1 || t > MOST_T) {
      return BAD;
    }
    weights.setLean(s, t);
    return 1;
  }

  public int number() {
    return graph;
  }

  public int become(int number) {
    if (!isGraph(number)) {
      return BAD;
    }
    graph = number;
    return 1;
  }

  public int thing(int what) {
    if (!isThing(what)) {
      return BAD;
    }
    return things.measure(what, graph, nodes);
  }

  public int many(int model) {
    if (!isModel(model)) {
      return BAD;
    }
    weights.prepare(model, graph, nodes);
    int count = 0;
    for (int other = 0; other < graphs; other++) {
      if (weights.of(other) > 0) {
        count++;
      }
    }
    return count;
  }

  public long total(int model) {
    if (!isModel(model)) {
      return BAD;
    }
    weights.prepare(model, graph, nodes);
    return sumOfWeights();
  }

  public long odds(int model, int what, int side, int part) {
    if (!isModel(model) || !isThing(what) || !isSideOrPart(side) || !isSideOrPart(part)) {
      return BAD;
    }
    weights.prepare(model, graph, nodes);
    int own = things.measure(what, graph, nodes);
    long sum = 0;
    long all = 0;
    for (int other = 0; other < graphs; other++) {
      long weight = weights.of(other);
      if (weight > 0) {
        int its = things.measure(what, other, nodes);
        all += weight;
        sum += (side == OR_MORE ? its >= own : its <= own) ? weight : 0;
      }
    }
    return tell(sum, all, part);
  }

  public long mean(int model, int what, int part) {
    if (!isModel(model) || !isThing(what) || !isSideOrPart(part)) {
      return BAD;
    }
    weights.prepare(model, graph, nodes);
    long sum = 0;
    long all = 0;
    for (int other = 0; other < graphs; other++) {
      long weight = weights.of(other);
      if (weight > 0) {
        all += weight;
        sum += weight * things.measure(what, other, nodes);
      }
    }
    return tell(sum, all, part);
  }

  public long pair(int model, int a, int b, int part) {
    if (!isModel(model) || !isPair(a, b) || !isSideOrPart(part)) {
      return BAD;
    }
    weights.prepare(model, graph, nodes);
    int bit = 1 << Pairs.indexOf(a, b);
    long sum = 0;
    long all = 0;
    for (int other = 0; other < graphs; other++) {
      long weight = weights.of(other);
      all += weight;
      sum += (other & bit) != 0 ? weight : 0;
    }
    return tell(sum, all, part);
  }

  public long likely(int model, int part) {
    if (!isModel(model) || !isSideOrPart(part)) {
      return BAD;
    }
    weights.prepare(model, graph, nodes);
    return tell(weights.of(graph), sumOfWeights(), part);
  }

  public int alike(int number) {
    if (!isGraph(number)) {
      return BAD;
    }
    return renumbering.count(graph, number, nodes) > 0 ? 1 : 0;
  }

  public int kinds() {
    // Every graph that is alike comes out of equally many of the nodes' renumberings.
    int same = renumbering.count(graph, graph, nodes);
    return same < 1 ? 1 : Renumbering.all(nodes) / same;
  }

  public void seed(long s) {
    dice.setState(s);
  }

  public int swaps(int tries) {
    if (tries < 0 || tries > MOST_TRIES) {
      return BAD;
    }
    int done = 0;
    for (int i = 0; i < tries; i++) {
      if (trySwap()) {
        done++;
      }
    }
    return done;
  }

  public int drawn(int model) {
    if (!isModel(model)) {
      return BAD;
    }
    // The weights stay those of the graph as it was, though it becomes another one.
    weights.prepare(model, graph, nodes);
    graph = graphAt(dice.below(sumOfWeights()));
    return graph;
  }

  public int blocks(int k) {
    if (k < 1 || k > nodes) {
      return BAD;
    }
    return ways.findBest(graph, nodes, k);
  }

  public int block(int node) {
    if (!isNode(node)) {
      return BAD;
    }
    return ways.isFound() ? ways.bestOf(node) : NONE;
  }

  private boolean isNode(int node) {
    return node >= 0 && node < nodes;
  }

  private boolean isPair(int a, int b) {
    return isNode(a) && isNode(b) && a != b;
  }

  private boolean isGraph(int number) {
    return number >= 0 && number < graphs;
  }

  private static boolean isThing(int what) {
    return what >= 0 && what < THINGS;
  }

  private static boolean isModel(int model) {
    return model >= 0 && model < MODELS;
  }

  private static boolean isSideOrPart(int choice) {
    return choice == 0 || choice == 1;
  }

  private long sumOfWeights() {
    long all = 0;
    for (int other = 0; other < graphs; other++) {
      all += weights.of(other);
    }
    return all;
  }

  /** The first graph with which the weights up to it are above x. */
  private int graphAt(long x) {
    long sum = 0;
    for (int other = 0; other < graphs; other++) {
      sum += weights.of(other);
      if (sum > x) {
        return other;
      }
    }
    return graph;
  }

  private boolean trySwap() {
    int edges = Integer.bitCount(graph);
    if (edges < 2) {
      return false;
    }
    int first = edgeAt((int) dice.below(edges));
    int second = edgeAt((int) dice.below(edges));
    boolean crossed = dice.below(2) == 0;
    int a = pairs.low(first);
    int b = pairs.high(first);
    int c = pairs.low(second);
    int d = pairs.high(second);
    if (a == c || a == d || b == c || b == d) {
      return false;
    }
    int one = 1 << (crossed ? Pairs.indexOf(a, d) : Pairs.indexOf(a, c));
    int two = 1 << (crossed ? Pairs.indexOf(c, b) : Pairs.indexOf(b, d));
    if ((graph & (one | two)) != 0) {
      return false;
    }
    graph = graph & ~(1 << first) & ~(1 << second) | one | two;
    return true;
  }

  /** The pair of the edge that has so many edges before it. */
  private int edgeAt(int before) {
    int seen = 0;
    for (int p = 0; p < MOST_PAIRS; p++) {
      if ((graph >> p & 1) != 0) {
        if (seen == before) {
          return p;
        }
        seen++;
      }
    }
    return 0;
  }

  private static long tell(long above, long below, int part) {
    long divisor = commonDivisor(above, below);
    if (divisor < 1) {
      return part == ABOVE ? 0 : 1;
    }
    return (part == ABOVE ? above : below) / divisor;
  }

  private static long commonDivisor(long x, long y) {
    long larger = x;
    long smaller = y;
    // Two steps at least halve the number, so 63 bits are through long before this bound.
    for (int i = 0; i < 200 && smaller != 0; i++) {
      long rest = larger % smaller;
      larger = smaller;
      smaller = rest;
    }
    return larger;
  }

  /** Which pair has which nodes; pairs in sets are bits, as in a graph's number. */
  private static final class Pairs {
    private final int[] low;
    private final int[] high;
    private final int[] star;
    private final int[] within;

    Pairs() {
      low = new int[MOST_PAIRS];
      high = new int[MOST_PAIRS];
      star = new int[MOST_NODES];
      within = new int[1 << (MOST_NODES - 1)];
      fillEnds();
      fillWithin();
    }

    private void fillEnds() {
      for (int b = 1; b < MOST_NODES; b++) {
        for (int a = 0; a < b; a++) {
          int p = indexOf(a, b);
          low[p] = a;
          high[p] = b;
          star[a] |= 1 << p;
          star[b] |= 1 << p;
        }
      }
    }

    private void fillWithin() {
      for (int node = 0; node < MOST_NODES - 1; node++) {
        for (int lesser = 0; lesser < 1 << node; lesser++) {
          within[lesser | 1 << node] = within[lesser] | lesser << among(node);
        }
      }
    }

    /** How many pairs n nodes have: also the first pair of node n with a lesser one. */
    static int among(int n) {
      return n * (n - 1) / 2;
    }

    static int indexOf(int a, int b) {
      return a < b ? among(b) + a : among(a) + b;
    }

    /** The lesser nodes, as bits, with which a node has an edge. */
    static int lesserNear(int graph, int node) {
      return graph >> among(node) & ((1 << node) - 1);
    }

    int low(int p) {
      return p >= 0 && p < MOST_PAIRS ? low[p] : 0;
    }

    int high(int p) {
      return p >= 0 && p < MOST_PAIRS ? high[p] : 1;
    }

    /** All pairs of a node. */
    int star(int node) {
      return node >= 0 && node < MOST_NODES ? star[node] : 0;
    }

    /** All pairs of two nodes of a set; the set leaves out node 5, which no one here needs. */
    int within(int set) {
      return set >= 0 && set < within.length ? within[set] : 0;
    }

    int ofLikeLabels(int[] labels) {
      int like = 0;
      for (int p = 0; p < MOST_PAIRS; p++) {
        if (low[p] < labels.length && high[p] < labels.length
            && labels[low[p]] == labels[high[p]]) {
          like |= 1 << p;
        }
      }
      return like;
    }
  }

  /** How much of each thing a graph has. */
  private static final class Things {
    private final Pairs pairs;
    private final int[] parts;
    private int alikeLabels;

    Things(Pairs pairs) {
      this.pairs = pairs;
      parts = new int[MOST_NODES];
      alikeLabels = (1 << MOST_PAIRS) - 1;
    }

    void setAlikeLabels(int set) {
      alikeLabels = set;
    }

    int measure(int what, int graph, int nodes) {
      switch (what) {
        case EDGES:
          return Integer.bitCount(graph);
        case TRIANGLES:
          return triangles(graph, nodes);
        case WEDGES:
          return wedges(graph, nodes);
        case PARTS:
          return parts(graph, nodes);
        case GREATEST_DEGREE:
          return greatestDegree(graph, nodes);
        case SQUARES:
          return squares(graph, nodes);
        case LONE:
          return lone(graph, nodes);
        default:
          return Integer.bitCount(graph & alikeLabels);
      }
    }

    /** A triangle is told by its greatest node and the edge of two lesser ones near to it. */
    int triangles(int graph, int nodes) {
      int count = 0;
      for (int node = 2; node < nodes; node++) {
        count += Integer.bitCount(graph & pairs.within(Pairs.lesserNear(graph, node)));
      }
      return count;
    }

    boolean haveSameDegrees(int one, int other, int nodes) {
      for (int node = 0; node < nodes; node++) {
        if (degree(one, node) != degree(other, node)) {
          return false;
        }
      }
      return true;
    }

    private int degree(int graph, int node) {
      return Integer.bitCount(graph & pairs.star(node));
    }

    private int wedges(int graph, int nodes) {
      int count = 0;
      for (int node = 0; node < nodes; node++) {
        count += Pairs.among(degree(graph, node));
      }
      return count;
    }

    private int parts(int graph, int nodes) {
      int count = 0;
      for (int node = 0; node < nodes && node < MOST_NODES; node++) {
        int near = Pairs.lesserNear(graph, node);
        int joined = 1 << node;
        int apart = 0;
        for (int i = 0; i < count; i++) {
          if ((parts[i] & near) != 0) {
            joined |= parts[i];
          } else {
            parts[apart] = parts[i];
            apart++;
          }
        }
        parts[apart] = joined;
        count = apart + 1;
      }
      return count;
    }

    private int greatestDegree(int graph, int nodes) {
      int greatest = 0;
      for (int node = 0; node < nodes; node++) {
        greatest = Math.max(greatest, degree(graph, node));
      }
      return greatest;
    }

    /** A square is told by its greatest node, the one across, and two lesser ones near to both. */
    private int squares(int graph, int nodes) {
      int count = 0;
      for (int node = 3; node < nodes; node++) {
        int near = Pairs.lesserNear(graph, node);
        for (int across = 0; across < node; across++) {
          int between = pairs.within(near | 1 << across) & pairs.star(across);
          count += Pairs.among(Integer.bitCount(graph & between));
        }
      }
      return count;
    }

    private int lone(int graph, int nodes) {
      int count = 0;
      for (int node = 0; node < nodes; node++) {
        if ((graph & pairs.star(node)) == 0) {
          count++;
        }
      }
      return count;
    }
  }

  /** The weight that a model gives to each graph. */
  private static final class Weights {
    private final Things things;
    private final long[] byEdges;
    private final long[] byTriangles;
    private int u;
    private int v;
    private int s;
    private int t;
    private int model;
    private int own;
    private int nodes;

    Weights(Things things) {
      this.things = things;
      // As long as the masks in of() reach: 15 edges, 20 triangles at most.
      byEdges = new long[16];
      byTriangles = new long[32];
      u = 1;
      v = 2;
      s = 1;
      t = 1;
    }

    void setChance(int above, int below) {
      u = above;
      v = below;
    }

    void setLean(int byEdge, int byTriangle) {
      s = byEdge;
      t = byTriangle;
    }

    /** What follows is asked by this model, with this graph as the one to compare with. */
    void prepare(int model, int own, int nodes) {
      this.model = model;
      this.own = own;
      this.nodes = nodes;
      int most = Pairs.among(nodes);
      for (int m = 0; m <= most && m < byEdges.length; m++) {
        byEdges[m] = weightOfEdges(m, most);
      }
      for (int k = 0; k < byTriangles.length; k++) {
        byTriangles[k] = power(t, k);
      }
    }

    private long weightOfEdges(int m, int most) {
      switch (model) {
        case FREE:
          return power(u, m) * power(v - u, most - m);
        case LEANING:
          return power(s, m);
        default:
          return m == Integer.bitCount(own) ? 1 : 0;
      }
    }

    private static long power(long base, int exponent) {
      long result = 1;
      for (int i = 0; i < exponent; i++) {
        result *= base;
      }
      return result;
    }

    long of(int graph) {
      long weight = byEdges[Integer.bitCount(graph) & 15];
      // Triangles are dear to count, and by t = 1 they weigh nothing.
      if (model == LEANING && t != 1) {
        return weight * byTriangles[things.triangles(graph, nodes) & 31];
      }
      if (model == DEGREES && weight != 0 && !things.haveSameDegrees(graph, own, nodes)) {
        return 0;
      }
      return weight;
    }
  }

  /** Draws by a seed. */
  private static final class Dice {
    private static final long FACTOR = 6364136223846793005L;
    private static final long STEP = 1442695040888963407L;
    private static final int MOST_REPEATS = 1000000;

    private long state;

    void setState(long s) {
      state = s;
    }

    long below(long n) {
      if (n < 1) {
        return 0;
      }
      long limit = Long.MAX_VALUE - Long.MAX_VALUE % n;
      long r = 0;
      for (int i = 0; i < MOST_REPEATS; i++) {
        state = state * FACTOR + STEP;
        r = state >>> 1;
        if (r < limit) {
          break;
        }
      }
      return r % n;
    }
  }

  /** In how many ways nodes can be renumbered so that one graph becomes another. */
  private static final class Renumbering {
    private final int[] images;
    private int from;
    private int to;
    private int nodes;

    Renumbering() {
      images = new int[MOST_NODES];
    }

    static int all(int nodes) {
      int product = 1;
      for (int i = 2; i <= nodes; i++) {
        product *= i;
      }
      return product;
    }

    int count(int from, int to, int nodes) {
      this.from = from;
      this.to = to;
      this.nodes = Math.min(nodes, MOST_NODES);
      return countFrom(0, 0);
    }

    /** The depth is the node; images of lesser nodes are taken. */
    private int countFrom(int node, int taken) {
      if (node >= nodes) {
        return 1;
      }
      int found = 0;
      for (int image = 0; image < nodes; image++) {
        if ((taken >> image & 1) == 0 && fits(node, image)) {
          images[node] = image;
          found += countFrom(node + 1, taken | 1 << image);
        }
      }
      return found;
    }

    private boolean fits(int node, int image) {
      for (int lesser = 0; lesser < node; lesser++) {
        int before = from >> Pairs.indexOf(lesser, node) & 1;
        int after = to >> Pairs.indexOf(images[lesser], image) & 1;
        if (before != after) {
          return false;
        }
      }
      return true;
    }
  }

  /** The ways to put nodes into blocks, and the best one found last. */
  private static final class Ways {
    private final Pairs pairs;
    private final int[] trial;
    private final int[] best;
    private final int[] room;
    private final int[] held;
    private int graph;
    private int nodes;
    private int wanted;
    private int leastCost;
    private boolean found;

    Ways(Pairs pairs) {
      this.pairs = pairs;
      trial = new int[MOST_NODES];
      best = new int[MOST_NODES];
      room = new int[MOST_NODES * MOST_NODES];
      held = new int[MOST_NODES * MOST_NODES];
    }

    void forget() {
      found = false;
    }

    boolean isFound() {
      return found;
    }

    int bestOf(int node) {
      return node >= 0 && node < MOST_NODES ? best[node] : 0;
    }

    int findBest(int graph, int nodes, int wanted) {
      this.graph = graph;
      this.nodes = Math.min(nodes, MOST_NODES);
      this.wanted = wanted;
      leastCost = Integer.MAX_VALUE;
      place(0, 0);
      found = true;
      return leastCost;
    }

    /**
     * The depth is the node. Lesser blocks are tried first, so of ways with like costs the one
     * that is due comes first, and only a lesser cost takes its place.
     */
    private void place(int node, int used) {
      if (used + nodes - node < wanted) {
        return;
      }
      if (node >= nodes) {
        compare();
        return;
      }
      for (int block = 0; block <= used && block < wanted; block++) {
        trial[node] = block;
        place(node + 1, block == used ? used + 1 : used);
      }
    }

    private void compare() {
      int cost = cost();
      if (cost < leastCost) {
        leastCost = cost;
        System.arraycopy(trial, 0, best, 0, MOST_NODES);
      }
    }

    /** It fits: the product is at most the ways to choose all edges of all pairs, 6435. */
    private int cost() {
      countPairs();
      int product = 1;
      for (int place = 0; place < room.length; place++) {
        product *= choices(room[place], held[place]);
      }
      return product;
    }

    private void countPairs() {
      for (int place = 0; place < room.length; place++) {
        room[place] = 0;
        held[place] = 0;
      }
      int most = Pairs.among(nodes);
      for (int p = 0; p < most; p++) {
        int one = trial[pairs.low(p)];
        int other = trial[pairs.high(p)];
        int place = Math.min(one, other) * MOST_NODES + Math.max(one, other);
        room[place]++;
        held[place] += graph >> p & 1;
      }
    }

    private static int choices(int of, int chosen) {
      int ways = 1;
      for (int i = 0; i < chosen; i++) {
        ways = ways * (of - i) / (i + 1);
      }
      return ways;
    }
  }
}
