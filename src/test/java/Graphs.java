/** Objects that hold a given graph. */
final class Graphs {
  private Graphs() {}

  static int pairs(int n) {
    return n * (n - 1) / 2;
  }

  /** The number of the graph whose pairs are all edges. */
  static int full(int n) {
    return (1 << pairs(n)) - 1;
  }

  static RandomModels of(int n, int number) {
    RandomModels x = new RandomModels();
    x.begin(n);
    x.become(number);
    return x;
  }

  /** Each two of the ends are an edge. */
  static RandomModels withEdges(int n, int... ends) {
    return of(n, numberOf(ends));
  }

  static int numberOf(int... ends) {
    int number = 0;
    for (int i = 0; i + 1 < ends.length; i += 2) {
      int a = Math.min(ends[i], ends[i + 1]);
      int b = Math.max(ends[i], ends[i + 1]);
      number |= 1 << (b * (b - 1) / 2 + a);
    }
    return number;
  }

  static int[] degrees(int n, int number) {
    int[] degrees = new int[n];
    int p = 0;
    for (int b = 1; b < n; b++) {
      for (int a = 0; a < b; a++) {
        degrees[a] += number >> p & 1;
        degrees[b] += number >> p & 1;
        p++;
      }
    }
    return degrees;
  }
}
