/**
 * A small graph held against chance: all graphs with as many nodes, weighed by four models.
 *
 * A graph is held as its number: bit p is set, if pair p is an edge. A sum over all graphs goes
 * through these numbers and makes no objects.
 */
public final class RandomModels {
  public static final int BAD = -1, NONE = -2;

  private static final int MOST_NODES = 6;
  private static final int MOST_PAIRS = 15;
  private static final int MOST_GRAPHS = 1 << MOST_PAIRS;
  private static final int LABELS = 3;
  private static final int MOST_CHANCE = 10;
  private static final int MOST_S = 3;
  private static final int MOST_T = 2;
  private static final int MOST_TRIES = 100;

  private static final int THINGS = 8;
  private static final int EDGES = 0;
  private static final int TRIANGLES = 1;
  private static final int WEDGES = 2;
  private static final int PARTS = 3;
  private static final int GREATEST_DEGREE = 4;
  private static final int SQUARES = 5;
  private static final int LONE = 6;
  private static final int SAME_LABEL = 7;

  private static final int MODELS = 4;
  private static final int FREE = 0;
  private static final int DEGREES = 2;
  private static final int LEANING = 3;

  private static final int OR_MORE = 0;
  private static final int ABOVE = 0;

  private final Pairs pairs;
  private final Things things;
  private final Weights weights;
  private final Dice dice;
  private final Renumbering renumbering;
  private final Ways ways;
  private final int[] labels;
  private int nodes;
  private int graphs;
  private int graph;

  public RandomModels() {
    pairs = new Pairs();
    things = new Things(pairs);
    weights = new Weights(pairs, things);
    dice = new Dice();
    renumbering = new Renumbering();
    ways = new Ways(pairs);
    labels = new int[MOST_NODES];
    nodes = 1;
    graphs = 1;
    graph = 0;
  }

  public int begin(int n) {
    if (n < 1 || n > MOST_NODES) {
      return BAD;
    }
    nodes = n;
    graphs = 1 << Pairs.among(n);
    graph = 0;
    for (int node = 0; node < MOST_NODES; node++) {
      labels[node] = 0;
    }
    things.setSameLabel(pairs.ofSameLabel(labels));
    ways.forget();
    return Pairs.among(n);
  }

  public int edge(int a, int b, boolean on) {
    if (!isPair(a, b)) {
      return BAD;
    }
    int bit = 1 << Pairs.indexOf(a, b);
    int wanted = on ? graph | bit : graph & ~bit;
    int changed = wanted == graph ? 0 : 1;
    graph = wanted;
    return changed;
  }

  public int label(int node, int l) {
    if (!isNode(node) || l < 0 || l >= LABELS) {
      return BAD;
    }
    int before = labels[node];
    labels[node] = l;
    things.setSameLabel(pairs.ofSameLabel(labels));
    return before;
  }

  public int chance(int u, int v) {
    if (v < 1 || v > MOST_CHANCE || u < 0 || u > v) {
      return BAD;
    }
    weights.setChance(u, v);
    return 1;
  }

  public int lean(int s, int t) {
    if (s < 1 || s > MOST_S || t < 1 || t > MOST_T) {
      return BAD;
    }
    weights.setLean(s, t);
    return 1;
  }

  public int number() {
    return graph;
  }

  public int become(int number) {
    if (!isGraph(number)) {
      return BAD;
    }
    graph = number;
    return 1;
  }

  public int thing(int what) {
    if (!isThing(what)) {
      return BAD;
    }
    return things.measure(what, graph, nodes);
  }

  public int many(int model) {
    if (!isModel(model)) {
      return BAD;
    }
    weights.prepare(model, graph, nodes);
    int count = 0;
    for (int other = 0; other < graphs; other++) {
      if (weights.of(other) > 0) {
        count++;
      }
    }
    return count;
  }

  public long total(int model) {
    if (!isModel(model)) {
      return BAD;
    }
    weights.prepare(model, graph, nodes);
    return sumOfWeights();
  }

  public long odds(int model, int what, int side, int part) {
    if (!isModel(model) || !isThing(what) || !isSideOrPart(side) || !isSideOrPart(part)) {
      return BAD;
    }
    weights.prepare(model, graph, nodes);
    things.makeRoom(what, graphs);
    int own = things.look(what, graph, nodes);
    long sum = 0;
    long all = 0;
    for (int other = 0; other < graphs; other++) {
      long weight = weights.of(other);
      if (weight > 0) {
        int its = things.look(what, other, nodes);
        all += weight;
        sum += (side == OR_MORE ? its >= own : its <= own) ? weight : 0;
      }
    }
    return tell(sum, all, part);
  }

  public long mean(int model, int what, int part) {
    if (!isModel(model) || !isThing(what) || !isSideOrPart(part)) {
      return BAD;
    }
    weights.prepare(model, graph, nodes);
    things.makeRoom(what, graphs);
    long sum = 0;
    long all = 0;
    for (int other = 0; other < graphs; other++) {
      long weight = weights.of(other);
      if (weight > 0) {
        all += weight;
        sum += weight * things.look(what, other, nodes);
      }
    }
    return tell(sum, all, part);
  }

  public long pair(int model, int a, int b, int part) {
    if (!isModel(model) || !isPair(a, b) || !isSideOrPart(part)) {
      return BAD;
    }
    weights.prepare(model, graph, nodes);
    int bit = 1 << Pairs.indexOf(a, b);
    long sum = 0;
    long all = 0;
    for (int other = 0; other < graphs; other++) {
      long weight = weights.of(other);
      all += weight;
      sum += (other & bit) != 0 ? weight : 0;
    }
    return tell(sum, all, part);
  }

  public long likely(int model, int part) {
    if (!isModel(model) || !isSideOrPart(part)) {
      return BAD;
    }
    weights.prepare(model, graph, nodes);
    return tell(weights.of(graph), sumOfWeights(), part);
  }

  public int alike(int number) {
    if (!isGraph(number)) {
      return BAD;
    }
    return renumbering.count(graph, number, nodes) > 0 ? 1 : 0;
  }

  public int kinds() {
    // Every graph that is alike comes out of equally many of the nodes' renumberings.
    int same = renumbering.count(graph, graph, nodes);
    return same < 1 ? 1 : Renumbering.all(nodes) / same;
  }

  public void seed(long s) {
    dice.setState(s);
  }

  public int swaps(int tries) {
    if (tries < 0 || tries > MOST_TRIES) {
      return BAD;
    }
    int done = 0;
    for (int i = 0; i < tries; i++) {
      if (trySwap()) {
        done++;
      }
    }
    return done;
  }

  public int drawn(int model) {
    if (!isModel(model)) {
      return BAD;
    }
    // The weights stay those of the graph as it was, though it becomes another one.
    weights.prepare(model, graph, nodes);
    graph = graphAt(dice.below(sumOfWeights()));
    return graph;
  }

  public int blocks(int k) {
    if (k < 1 || k > nodes) {
      return BAD;
    }
    return ways.findBest(graph, nodes, k);
  }

  public int block(int node) {
    if (!isNode(node)) {
      return BAD;
    }
    return ways.isFound() ? ways.bestOf(node) : NONE;
  }

  private boolean isNode(int node) {
    return node >= 0 && node < nodes;
  }

  private boolean isPair(int a, int b) {
    return isNode(a) && isNode(b) && a != b;
  }

  private boolean isGraph(int number) {
    return number >= 0 && number < graphs;
  }

  private static boolean isThing(int what) {
    return what >= 0 && what < THINGS;
  }

  private static boolean isModel(int model) {
    return model >= 0 && model < MODELS;
  }

  private static boolean isSideOrPart(int choice) {
    return choice == 0 || choice == 1;
  }

  private long sumOfWeights() {
    long all = 0;
    for (int other = 0; other < graphs; other++) {
      all += weights.of(other);
    }
    return all;
  }

  /** The first graph with which the weights up to it are above x. */
  private int graphAt(long x) {
    long sum = 0;
    for (int other = 0; other < graphs; other++) {
      sum += weights.of(other);
      if (sum > x) {
        return other;
      }
    }
    return graph;
  }

  private boolean trySwap() {
    int edges = Integer.bitCount(graph);
    if (edges < 2) {
      return false;
    }
    int first = edgeAt((int) dice.below(edges));
    int second = edgeAt((int) dice.below(edges));
    boolean crossed = dice.below(2) == 0;
    int a = pairs.low(first);
    int b = pairs.high(first);
    int c = pairs.low(second);
    int d = pairs.high(second);
    if (a == c || a == d || b == c || b == d) {
      return false;
    }
    int one = 1 << (crossed ? Pairs.indexOf(a, d) : Pairs.indexOf(a, c));
    int two = 1 << (crossed ? Pairs.indexOf(c, b) : Pairs.indexOf(b, d));
    if ((graph & (one | two)) != 0) {
      return false;
    }
    graph = graph & ~(1 << first) & ~(1 << second) | one | two;
    return true;
  }

  /** The pair of the edge that has so many edges before it. */
  private int edgeAt(int before) {
    int seen = 0;
    for (int p = 0; p < MOST_PAIRS; p++) {
      if ((graph >> p & 1) != 0) {
        if (seen == before) {
          return p;
        }
        seen++;
      }
    }
    return 0;
  }

  private static long tell(long above, long below, int part) {
    long divisor = commonDivisor(above, below);
    if (divisor < 1) {
      return part == ABOVE ? 0 : 1;
    }
    return (part == ABOVE ? above : below) / divisor;
  }

  private static long commonDivisor(long x, long y) {
    long larger = x;
    long smaller = y;
    // Two steps at least halve the number, so 63 bits are through long before this bound.
    for (int i = 0; i < 200 && smaller != 0; i++) {
      long rest = larger % smaller;
      larger = smaller;
      smaller = rest;
    }
    return larger;
  }

  /** Which pair has which nodes; sets of pairs are bits, as in a graph's number. */
  private static final class Pairs {
    private final int[] lows;
    private final int[] highs;
    private final int[] stars;

    Pairs() {
      lows = new int[MOST_PAIRS];
      highs = new int[MOST_PAIRS];
      stars = new int[MOST_NODES];
      for (int b = 1; b < MOST_NODES; b++) {
        for (int a = 0; a < b; a++) {
          int p = indexOf(a, b);
          lows[p] = a;
          highs[p] = b;
          stars[a] |= 1 << p;
          stars[b] |= 1 << p;
        }
      }
    }

    static int among(int n) {
      return n * (n - 1) / 2;
    }

    static int indexOf(int a, int b) {
      return a < b ? among(b) + a : among(a) + b;
    }

    int low(int p) {
      return p >= 0 && p < MOST_PAIRS ? lows[p] : 0;
    }

    int high(int p) {
      return p >= 0 && p < MOST_PAIRS ? highs[p] : 1;
    }

    int degree(int graph, int node) {
      return node >= 0 && node < MOST_NODES ? Integer.bitCount(graph & stars[node]) : 0;
    }

    /** All pairs of two nodes with the same label. */
    int ofSameLabel(int[] labels) {
      int same = 0;
      for (int b = 1; b < labels.length; b++) {
        for (int a = 0; a < b; a++) {
          if (labels[a] == labels[b]) {
            same |= 1 << indexOf(a, b);
          }
        }
      }
      return same;
    }

    /** Whether edges lead from a node to another one. */
    boolean hangTogether(int graph, int from, int to) {
      int reached = 1 << from;
      int before = 0;
      for (int steps = 1; steps < MOST_NODES && reached != before; steps++) {
        before = reached;
        for (int p = 0; p < MOST_PAIRS; p++) {
          int ends = 1 << lows[p] | 1 << highs[p];
          if ((graph >> p & 1) != 0 && (reached & ends) != 0) {
            reached |= ends;
          }
        }
      }
      return (reached >> to & 1) != 0;
    }
  }

  /**
   * How much of each thing a graph has.
   *
   * The things 0 to 6 are counted together, edge after edge, into one packed number. It holds
   * lone nodes and parts by how many fewer there are than nodes, so it is the same for every
   * number of nodes. What has been counted for a sum over all graphs is kept, since later sums
   * ask for it again.
   */
  private static final class Things {
    private static final int[] SHIFTS = {0, 4, 9, 15, 18, 21, 27};
    private static final int[] MASKS = {15, 31, 63, 7, 7, 63, 7};
    private static final int TWO_STEPS = MOST_NODES - 2;
    private static final int THREE_STEPS = (MOST_NODES - 2) * (MOST_NODES - 3);

    private final Pairs pairs;
    private final int[] twoSteps;
    private final int[] threeSteps;
    private int[] kept;
    private int sameLabel;

    Things(Pairs pairs) {
      this.pairs = pairs;
      twoSteps = new int[MOST_PAIRS * TWO_STEPS];
      threeSteps = new int[MOST_PAIRS * THREE_STEPS];
      kept = new int[1];
      sameLabel = MOST_GRAPHS - 1;
      for (int p = 0; p < MOST_PAIRS; p++) {
        fillSteps(p);
      }
    }

    /** The ways from one node of a pair to the other over one more node, and over two. */
    private void fillSteps(int p) {
      int a = pairs.low(p);
      int b = pairs.high(p);
      int two = p * TWO_STEPS;
      int three = p * THREE_STEPS;
      for (int c = 0; c < MOST_NODES; c++) {
        if (c != a && c != b) {
          int first = 1 << Pairs.indexOf(a, c);
          twoSteps[two] = first | 1 << Pairs.indexOf(c, b);
          two++;
          for (int d = 0; d < MOST_NODES; d++) {
            if (d != a && d != b && d != c) {
              threeSteps[three] = first | 1 << Pairs.indexOf(c, d) | 1 << Pairs.indexOf(d, b);
              three++;
            }
          }
        }
      }
    }

    void setSameLabel(int set) {
      sameLabel = set;
    }

    /** Before a thing is looked at in so many graphs. */
    void makeRoom(int what, int graphs) {
      if (!isQuick(what) && graphs > kept.length && graphs <= MOST_GRAPHS) {
        int[] larger = new int[graphs];
        System.arraycopy(kept, 0, larger, 0, kept.length);
        kept = larger;
      }
    }

    /** For a single graph: nothing is kept. */
    int measure(int what, int graph, int nodes) {
      int packed = 0;
      int grown = 0;
      for (int p = 0; p < MOST_PAIRS; p++) {
        if ((graph >> p & 1) != 0) {
          packed = withEdge(packed, grown, p);
          grown |= 1 << p;
        }
      }
      return read(what, packed, graph, nodes);
    }

    /** For sums over all graphs: room was made before. */
    int look(int what, int graph, int nodes) {
      return read(what, isQuick(what) ? 0 : keptOf(graph, MOST_PAIRS), graph, nodes);
    }

    /** Whether it is quicker counted than kept. */
    private static boolean isQuick(int what) {
      return what == EDGES || what == SAME_LABEL;
    }

    private int read(int what, int packed, int graph, int nodes) {
      switch (what) {
        case EDGES:
          return Integer.bitCount(graph);
        case SAME_LABEL:
          return Integer.bitCount(graph & sameLabel);
        case PARTS:
        case LONE:
          return nodes - unpack(what, packed);
        default:
          return unpack(what, packed);
      }
    }

    private static int unpack(int what, int packed) {
      return what >= 0 && what < SHIFTS.length ? packed >> SHIFTS[what] & MASKS[what] : 0;
    }

    /** The graph has no edge from pair 'end' on, so there are at most as many levels as pairs. */
    private int keptOf(int graph, int end) {
      if (graph < 0 || graph >= kept.length) {
        return 0;
      }
      if (kept[graph] != 0) {
        return kept[graph];
      }
      for (int p = end - 1; p >= 0; p--) {
        if ((graph >> p & 1) != 0) {
          int rest = graph & ~(1 << p);
          kept[graph] = withEdge(keptOf(rest, p), rest, p);
          return kept[graph];
        }
      }
      return 0;
    }

    /** What a graph's packed number becomes, if pair p becomes an edge of it. */
    private int withEdge(int packed, int graph, int p) {
      int a = pairs.degree(graph, pairs.low(p));
      int b = pairs.degree(graph, pairs.high(p));
      int overOne = countWhole(graph, twoSteps, p * TWO_STEPS, TWO_STEPS);
      int overTwo = countWhole(graph, threeSteps, p * THREE_STEPS, THREE_STEPS);
      boolean joins = overOne == 0 && overTwo == 0
          && !pairs.hangTogether(graph, pairs.low(p), pairs.high(p));
      int rise = Math.max(0, Math.max(a, b) + 1 - unpack(GREATEST_DEGREE, packed));
      int noMoreLone = (a == 0 ? 1 : 0) + (b == 0 ? 1 : 0);
      return packed + (1 << SHIFTS[EDGES])
          + (overOne << SHIFTS[TRIANGLES])
          + (a + b << SHIFTS[WEDGES])
          + ((joins ? 1 : 0) << SHIFTS[PARTS])
          + (rise << SHIFTS[GREATEST_DEGREE])
          + (overTwo << SHIFTS[SQUARES])
          + (noMoreLone << SHIFTS[LONE]);
    }

    /** How many of some sets of pairs are edges altogether. */
    private static int countWhole(int graph, int[] sets, int start, int length) {
      int count = 0;
      for (int i = start; i < start + length && i < sets.length; i++) {
        if ((graph & sets[i]) == sets[i]) {
          count++;
        }
      }
      return count;
    }
  }

  /** The weight that a model gives to each graph. */
  private static final class Weights {
    private final Pairs pairs;
    private final Things things;
    private final long[] byEdges;
    private final long[] byTriangles;
    private final int[] degrees;
    private int u;
    private int v;
    private int s;
    private int t;
    private int model;
    private int own;
    private int nodes;

    Weights(Pairs pairs, Things things) {
      this.pairs = pairs;
      this.things = things;
      // As long as the masks in of() reach: there are 15 edges, 20 triangles at most.
      byEdges = new long[16];
      byTriangles = new long[32];
      degrees = new int[MOST_NODES];
      u = 1;
      v = 2;
      s = 1;
      t = 1;
    }

    void setChance(int above, int below) {
      u = above;
      v = below;
    }

    void setLean(int byEdge, int byTriangle) {
      s = byEdge;
      t = byTriangle;
    }

    /** What follows is asked by this model, of graphs with so many nodes, one being the own. */
    void prepare(int byModel, int ownGraph, int ofNodes) {
      model = byModel;
      own = ownGraph;
      nodes = Math.min(ofNodes, MOST_NODES);
      int most = Pairs.among(nodes);
      for (int m = 0; m <= most; m++) {
        byEdges[m] = weightOfEdges(m, most);
      }
      for (int k = 0; k < byTriangles.length; k++) {
        byTriangles[k] = power(t, k);
      }
      for (int node = 0; node < nodes; node++) {
        degrees[node] = pairs.degree(own, node);
      }
      if (countsTriangles()) {
        things.makeRoom(TRIANGLES, 1 << most);
      }
    }

    private long weightOfEdges(int m, int most) {
      switch (model) {
        case FREE:
          return power(u, m) * power(v - u, most - m);
        case LEANING:
          return power(s, m);
        default:
          return m == Integer.bitCount(own) ? 1 : 0;
      }
    }

    private static long power(long base, int exponent) {
      long result = 1;
      for (int i = 0; i < exponent; i++) {
        result *= base;
      }
      return result;
    }

    /** Triangles are dear to count, and by t = 1 they weigh nothing. */
    private boolean countsTriangles() {
      return model == LEANING && t != 1;
    }

    long of(int graph) {
      long weight = byEdges[Integer.bitCount(graph) & 15];
      if (countsTriangles()) {
        return weight * byTriangles[things.look(TRIANGLES, graph, nodes) & 31];
      }
      if (model == DEGREES && weight != 0 && !hasOwnDegrees(graph)) {
        return 0;
      }
      return weight;
    }

    private boolean hasOwnDegrees(int graph) {
      for (int node = 0; node < nodes; node++) {
        if (pairs.degree(graph, node) != degrees[node]) {
          return false;
        }
      }
      return true;
    }
  }

  /** Draws by a seed. */
  private static final class Dice {
    private static final long FACTOR = 6364136223846793005L;
    private static final long STEP = 1442695040888963407L;
    private static final long LARGEST = 9223372036854775807L;
    private static final int MOST_REPEATS = 1000000;

    private long state;

    void setState(long s) {
      state = s;
    }

    long below(long n) {
      if (n < 1) {
        return 0;
      }
      long limit = LARGEST - LARGEST % n;
      long r = 0;
      for (int i = 0; i < MOST_REPEATS; i++) {
        state = state * FACTOR + STEP;
        r = state >>> 1;
        if (r < limit) {
          break;
        }
      }
      return r % n;
    }
  }

  /** In how many ways nodes can be renumbered so that one graph becomes another. */
  private static final class Renumbering {
    private final int[] images;
    private int from;
    private int to;
    private int nodes;

    Renumbering() {
      images = new int[MOST_NODES];
    }

    static int all(int nodes) {
      int product = 1;
      for (int i = 2; i <= nodes; i++) {
        product *= i;
      }
      return product;
    }

    int count(int from, int to, int nodes) {
      this.from = from;
      this.to = to;
      this.nodes = Math.min(nodes, MOST_NODES);
      return countFrom(0, 0);
    }

    /** The depth is the node; images of lesser nodes are taken. */
    private int countFrom(int node, int taken) {
      if (node >= nodes) {
        return 1;
      }
      int found = 0;
      for (int image = 0; image < nodes; image++) {
        if ((taken >> image & 1) == 0 && fits(node, image)) {
          images[node] = image;
          found += countFrom(node + 1, taken | 1 << image);
        }
      }
      return found;
    }

    private boolean fits(int node, int image) {
      for (int lesser = 0; lesser < node; lesser++) {
        int before = from >> Pairs.indexOf(lesser, node) & 1;
        int after = to >> Pairs.indexOf(images[lesser], image) & 1;
        if (before != after) {
          return false;
        }
      }
      return true;
    }
  }

  /** The ways to put nodes into blocks, and the best one found last. */
  private static final class Ways {
    private static final int ABOVE_ANY_COST = 1000000;

    private final Pairs pairs;
    private final int[] trial;
    private final int[] best;
    private final int[] room;
    private final int[] held;
    private int graph;
    private int nodes;
    private int wanted;
    private int leastCost;
    private boolean found;

    Ways(Pairs pairs) {
      this.pairs = pairs;
      trial = new int[MOST_NODES];
      best = new int[MOST_NODES];
      room = new int[MOST_NODES * MOST_NODES];
      held = new int[MOST_NODES * MOST_NODES];
    }

    void forget() {
      found = false;
    }

    boolean isFound() {
      return found;
    }

    int bestOf(int node) {
      return node >= 0 && node < MOST_NODES ? best[node] : 0;
    }

    int findBest(int graph, int nodes, int wanted) {
      this.graph = graph;
      this.nodes = Math.min(nodes, MOST_NODES);
      this.wanted = wanted;
      leastCost = ABOVE_ANY_COST;
      place(0, 0);
      found = true;
      return leastCost;
    }

    /**
     * The depth is the node. Lesser blocks are tried first, so of ways with like costs the one
     * that is due comes first, and only a lesser cost takes its place.
     */
    private void place(int node, int used) {
      if (used + nodes - node < wanted) {
        return;
      }
      if (node >= nodes) {
        compare();
        return;
      }
      for (int block = 0; block <= used && block < wanted; block++) {
        trial[node] = block;
        place(node + 1, block == used ? used + 1 : used);
      }
    }

    private void compare() {
      int cost = costOfTrial();
      if (cost < leastCost) {
        leastCost = cost;
        System.arraycopy(trial, 0, best, 0, MOST_NODES);
      }
    }

    /** It fits: the product is at most the ways to choose all edges of all pairs, 6435. */
    private int costOfTrial() {
      countPairs();
      int product = 1;
      for (int place = 0; place < room.length; place++) {
        product *= choices(room[place], held[place]);
      }
      return product;
    }

    private void countPairs() {
      for (int place = 0; place < room.length; place++) {
        room[place] = 0;
        held[place] = 0;
      }
      int most = Pairs.among(nodes);
      for (int p = 0; p < most; p++) {
        int one = trial[pairs.low(p)];
        int other = trial[pairs.high(p)];
        int place = Math.min(one, other) * MOST_NODES + Math.max(one, other);
        room[place]++;
        held[place] += graph >> p & 1;
      }
    }

    private static int choices(int of, int chosen) {
      int count = 1;
      for (int i = 0; i < chosen; i++) {
        count = count * (of - i) / (i + 1);
      }
      return count;
    }
  }
}
