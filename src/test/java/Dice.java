/** A row of numbers that is the same at any time: what is made by it can be made again. */
final class Dice {
  private static final int[] WHOLE = {0, 1, -1, Integer.MIN_VALUE, Integer.MAX_VALUE};
  private static final long[] LONG = {Long.MIN_VALUE, Long.MAX_VALUE, 1L << 32, -1L << 32};
  private long state;

  Dice(long seed) {
    state = seed * 0x9E3779B97F4A7C15L + 88172645463325252L;
    if (state == 0) {
      state = 1;
    }
    for (int k = 0; k < 4; k++) {
      next();
    }
  }

  private long next() {
    state ^= state << 13;
    state ^= state >>> 7;
    state ^= state << 17;
    return state * 0x2545F4914F6CDD1DL;
  }

  /** 0 .. many - 1. */
  int below(int many) {
    return (int) ((next() >>> 1) % many);
  }

  /** True so many times of a thousand. */
  boolean often(int times) {
    return below(1000) < times;
  }

  int of(int... numbers) {
    return numbers[below(numbers.length)];
  }

  String of(String... texts) {
    return texts[below(texts.length)];
  }

  int whole() {
    int k = below(8);
    return k < WHOLE.length ? WHOLE[k] : k == 5 ? below(70000) : k == 6 ? below(64) : (int) next();
  }

  long longer() {
    int k = below(10);
    return k < LONG.length ? LONG[k] : k < 7 ? whole() : next() >> below(64);
  }
}
