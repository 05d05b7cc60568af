import java.util.TreeSet;

/** The values that a bound is tried with. */
final class Edges {
  static final int MIN = Integer.MIN_VALUE, MAX = Integer.MAX_VALUE;
  static final int MIN_TYPES = 4, MAX_TYPES = 12, MIN_AUDIT = 4, MAX_AUDIT = 16;

  /**
   * Every number near a bound that the document names, and every power of two
   * with what comes near it, so that a value cut down to fewer bits shows too.
   */
  static final int[] VALUES = values();

  private Edges() {}

  private static int[] values() {
    TreeSet<Integer> all = new TreeSet<>();
    for (int v = -300; v <= 600; v++) {
      all.add(v);
    }
    for (int bit = 9; bit <= 31; bit++) {
      for (int near : new int[] {-1, 0, 1, 3, 7, 64, 71, 99, 255}) {
        all.add((1 << bit) + near);
        all.add(-(1 << bit) + near);
      }
    }
    return all.stream().mapToInt(v -> v).toArray();
  }

  static boolean within(int v, int low, int high) {
    return v >= low && v <= high;
  }

  static boolean isType(int v, int types) {
    return within(v, 0, types - 1);
  }

  static boolean isTypeOrAttribute(int v, int types) {
    return isType(v, types) || within(v, 64, 71);
  }
}
