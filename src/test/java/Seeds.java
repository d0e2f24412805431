import java.math.BigInteger;

/** Seeds by which given numbers are drawn. */
final class Seeds {
  private static final BigInteger WRAP = BigInteger.ONE.shiftLeft(64);
  private static final BigInteger FACTOR = new BigInteger("6364136223846793005");
  private static final BigInteger STEP = new BigInteger("1442695040888963407");
  private static final BigInteger INVERSE = FACTOR.modInverse(WRAP);

  private Seeds() {}

  /** What a seed becomes by one draw. */
  static long after(long seed) {
    return BigInteger.valueOf(seed).multiply(FACTOR).add(STEP).mod(WRAP).longValue();
  }

  static long after(long seed, int draws) {
    long s = seed;
    for (int i = 0; i < draws; i++) {
      s = after(s);
    }
    return s;
  }

  /** The seed that becomes a given one by one draw. */
  static long before(long next) {
    return BigInteger.valueOf(next).subtract(STEP).multiply(INVERSE).mod(WRAP).longValue();
  }

  /** A seed by which the next r is a given one, 0 .. 2^63 - 1. */
  static long forHalf(long r) {
    return before(r << 1);
  }

  /** What is left of the r that a seed has become, by a number far below 2^63. */
  static int left(long seed, int by) {
    return (int) ((seed >>> 1) % by);
  }

  /**
   * The seeds by which a try with so many edges draws these: one, or none. The lowest bits of a
   * seed come round soon, so for some i and j there is no seed that draws them with h.
   */
  static long[] forTry(int edges, int i, int j, int h) {
    for (long one = 0; one < 4000; one++) {
      long two = after(one);
      long three = after(two);
      if (left(one, edges) == i && left(two, edges) == j && left(three, 2) == h) {
        return new long[] {before(one)};
      }
    }
    return new long[0];
  }
}
