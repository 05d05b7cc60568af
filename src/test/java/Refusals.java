import java.util.ArrayList;
import java.util.List;

/**
 * The calls that a world must answer ERR_ARG: each argument past each of its
 * edges while the others are good, two wrong ones together, and all of them.
 */
final class Refusals {
  private static final int MIN = Edges.MIN, MAX = Edges.MAX;
  private static final int[] CLASSES = {MIN, -1, 4, MAX};
  private static final int[] PERMS = {MIN, -1, 0, 256, MAX};
  private static final int[] ATTRIBUTES = {MIN, -1, 8, 32, 64, MAX};
  private static final int[] NEVER_WRONG = {};

  private final List<Call> calls = new ArrayList<>();

  private Refusals() {}

  /** For a world with so many types and so many processes, whose objects 0 to 3 have the classes 0 to 3. */
  static List<Call> of(Op op, int types, int procs, int objects, int held) {
    Refusals r = new Refusals();
    int[] noType = {MIN, -1, types, types + 1, 64, 99, MAX};
    int[] noSource = {MIN, -1, types, 63, 72, 98, 99, 100, MAX};
    int[] noTarget = {MIN, -1, types, 63, 72, 98, 100, MAX};
    int[] noPid = {MIN, -1, procs, procs + 1, MAX};
    int[] noOid = {MIN, -1, objects, objects + 1, MAX};
    int[] noFile = {MIN, -1, 1, 2, 3, objects, MAX};
    int[] noDir = {MIN, -1, 0, 2, 3, objects, MAX};
    int[] noEntry = {MIN, -1, held, held + 1, MAX};
    switch (op) {
      case STAGE_MEMBER -> r.add(op, ints(0, 1), noType, ATTRIBUTES);
      case STAGE_ALLOW, STAGE_NEVERALLOW -> r.add(op, ints(0, 0, 0, 1), noSource, noTarget, CLASSES, PERMS);
      case STAGE_TRANSITION -> r.add(op, ints(0, 0, 0, 1), noSource, noSource, CLASSES, noType);
      case POLICY_INFO -> r.add(op, ints(0), ints(MIN, -1, 14, 15, MAX));
      case POLICY_QUERY -> {
        int[] noKind = {MIN, -1, 4, 5, MAX};
        for (int kind = 0; kind < 4; kind++) {
          boolean member = kind < 2;
          r.add(op, ints(kind, 0, 0, 0), noKind, noType, member ? ATTRIBUTES : noType,
              member ? NEVER_WRONG : CLASSES);
        }
      }
      case DECIDE -> r.add(op, ints(0, 0, 0, 0), noType, noType, CLASSES, ints(MIN, -1, 2, MAX));
      case SPAWN -> r.add(op, ints(0), noType);
      case MAKE_OBJECT -> r.add(op, ints(0, 0), noType, CLASSES);
      case EXEC -> r.add(op, ints(0, 0), noPid, noFile);
      case CREATE -> r.add(op, ints(0, 1, 0), noPid, noDir, ints(MIN, -1, 2, 4, MAX));
      case CHECK -> r.add(op, ints(0, 0, 1), noPid, noOid, PERMS);
      case LABEL -> {
        r.add(op, ints(0, 0), ints(MIN, -1, 3, 4, MAX), noPid);
        r.add(op, ints(1, 0), NEVER_WRONG, noOid);
        r.add(op, ints(2, 0), NEVER_WRONG, noOid);
      }
      case AUDIT -> {
        for (int field = 0; field < 5; field++) {
          r.add(op, ints(0, field), noEntry, ints(MIN, -1, 7, 8, MAX));
        }
      }
      case STAGE_CLEAR, COMMIT -> { }
      default -> throw new IllegalArgumentException(op.name());
    }
    return r.calls;
  }

  private static int[] ints(int... values) {
    return values;
  }

  private void add(Op op, int[] good, int[]... wrong) {
    int[] allWrong = good.clone();
    for (int i = 0; i < good.length; i++) {
      for (int v : wrong[i]) {
        int[] one = good.clone();
        one[i] = v;
        calls.add(new Call(op, one));
        allWrong[i] = v;
      }
      for (int j = 0; j < i; j++) {
        addTwoWrong(op, good, i, wrong[i], j, wrong[j]);
      }
    }
    calls.add(new Call(op, allWrong));
  }

  private void addTwoWrong(Op op, int[] good, int i, int[] wrongI, int j, int[] wrongJ) {
    for (int n = 0; n < Math.min(wrongI.length, wrongJ.length); n++) {
      int[] two = good.clone();
      two[i] = wrongI[n];
      two[j] = wrongJ[wrongJ.length - 1 - n];
      calls.add(new Call(op, two));
    }
  }
}
