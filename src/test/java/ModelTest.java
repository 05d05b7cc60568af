import java.util.Arrays;
import java.util.Map;
import java.util.Random;
import java.util.TreeMap;

/**
 * All promises together: long runs of calls, the same at each start, on the
 * program and on the model; every answer and all that can be seen must agree.
 */
final class ModelTest {
  private static final int RUNS = 400, CALLS = 500, LOOK_EVERY = 7;
  private static final int[] ODD = {Integer.MIN_VALUE, -64, -5, -1, 4, 5, 8, 12, 13, 16, 63, 64, 71, 72, 98, 99,
      100, 255, 256, 320, Integer.MAX_VALUE};
  private static final Op[] OFTEN = {Op.STAGE_MEMBER, Op.STAGE_ALLOW, Op.STAGE_ALLOW, Op.STAGE_ALLOW,
      Op.STAGE_ALLOW, Op.STAGE_TRANSITION, Op.STAGE_TRANSITION, Op.COMMIT, Op.EXEC, Op.EXEC, Op.EXEC,
      Op.CREATE, Op.CREATE, Op.CHECK, Op.CHECK, Op.DECIDE, Op.LABEL, Op.AUDIT, Op.POLICY_INFO,
      Op.POLICY_QUERY};
  private static final Op[] SELDOM = {Op.STAGE_NEVERALLOW, Op.SPAWN, Op.MAKE_OBJECT};

  private final Due due = new Due("ModelTest");
  private final Map<String, Integer> reached = new TreeMap<>();

  public static void main(String[] args) {
    ModelTest test = new ModelTest();
    for (int run = 0; run < RUNS; run++) {
      test.run(new Random(run), run);
    }
    test.lookAtWhatWasReached();
    test.due.end();
  }

  private void run(Random random, int run) {
    int types = random.nextInt(20) - 3;
    int auditSize = random.nextInt(24) - 3;
    Engine real = new RealEngine(new TypeEnforcer(types, auditSize));
    ModelEngine model = new ModelEngine(types, auditSize);
    // Few names and classes let rules meet; many try every place.
    int names = 2 + random.nextInt(12);
    for (int i = 0; i < CALLS; i++) {
      Op op = pickOp(random);
      int[] a = pickArguments(random, op, names);
      int want = model.call(op, a);
      due.is("run " + run + " call " + i + " " + op + Arrays.toString(a), real.call(op, a), want);
      reached.merge(op + " " + (want < 0 ? want : "good"), 1, Integer::sum);
      if (i % LOOK_EVERY == 0) {
        due.changed("run " + run + " call " + i, Snapshot.of(model), Snapshot.of(real));
        due.holds("run " + run + " call " + i + ": an active assertion is broken",
            model.assertionsHold(real));
      }
    }
  }

  private static Op pickOp(Random random) {
    if (random.nextInt(150) == 0) {
      return Op.STAGE_CLEAR;
    }
    return random.nextInt(12) == 0 ? SELDOM[random.nextInt(SELDOM.length)]
        : OFTEN[random.nextInt(OFTEN.length)];
  }

  private static int[] pickArguments(Random random, Op op, int names) {
    int[] a = new int[op.parameters];
    for (int i = 0; i < a.length; i++) {
      a[i] = random.nextInt(25) == 0 ? ODD[random.nextInt(ODD.length)] : random.nextInt(names);
    }
    switch (op) {
      case STAGE_ALLOW, STAGE_NEVERALLOW -> {
        a[0] = pickName(random, a[0]);
        a[1] = random.nextInt(6) == 0 ? 99 : pickName(random, a[1]);
        a[2] = pickSmall(random, a[2], 4);
        a[3] = op == Op.STAGE_ALLOW ? 1 + random.nextInt(255) : pickSmall(random, 1 << random.nextInt(8), 999);
        if (random.nextInt(30) == 0) {
          a[3] = ODD[random.nextInt(ODD.length)];
        }
      }
      case STAGE_TRANSITION -> {
        a[0] = pickName(random, a[0]);
        a[1] = pickName(random, a[1]);
        a[2] = pickSmall(random, a[2], 4);
      }
      case DECIDE -> {
        a[2] = pickSmall(random, a[2], 4);
        a[3] = pickSmall(random, a[3], 2);
      }
      case POLICY_QUERY -> {
        a[0] = pickSmall(random, a[0], 5);
        a[3] = pickSmall(random, a[3], 4);
      }
      case POLICY_INFO -> a[0] = pickSmall(random, random.nextInt(99), 15);
      case MAKE_OBJECT -> a[1] = pickSmall(random, a[1], random.nextBoolean() ? 2 : 4);
      case CREATE -> a[2] = pickSmall(random, a[2], 4);
      case CHECK -> a[2] = random.nextInt(20) == 0 ? a[2] : 1 + random.nextInt(255);
      case LABEL -> a[0] = pickSmall(random, a[0], 3);
      case AUDIT -> a[1] = pickSmall(random, a[1], 7);
      default -> { }
    }
    return a;
  }

  private static int pickName(Random random, int type) {
    return random.nextInt(3) == 0 ? 64 + random.nextInt(4) : type;
  }

  /** Mostly brought below the bound, so that most calls come past their tests. */
  private static int pickSmall(Random random, int value, int bound) {
    return random.nextInt(30) == 0 ? value : Math.floorMod(value, bound);
  }

  /** Without this the runs might agree only because they refuse everything. */
  private void lookAtWhatWasReached() {
    String[] wanted = {"STAGE_MEMBER good", "STAGE_MEMBER -1", "STAGE_ALLOW good", "STAGE_ALLOW -1",
        "STAGE_ALLOW -2", "STAGE_NEVERALLOW good", "STAGE_NEVERALLOW -1", "STAGE_NEVERALLOW -2",
        "STAGE_TRANSITION good", "STAGE_TRANSITION -1", "STAGE_TRANSITION -2", "COMMIT good", "COMMIT -3",
        "POLICY_INFO good", "POLICY_INFO -1", "POLICY_INFO -5", "POLICY_QUERY good", "POLICY_QUERY -1",
        "POLICY_QUERY -5", "DECIDE good", "DECIDE -1", "SPAWN good", "SPAWN -1", "SPAWN -2",
        "MAKE_OBJECT good", "MAKE_OBJECT -1", "MAKE_OBJECT -2", "EXEC good", "EXEC -1", "EXEC -4",
        "CREATE good", "CREATE -1", "CREATE -2", "CREATE -4", "CHECK good", "CHECK -1", "LABEL good",
        "LABEL -1", "AUDIT good", "AUDIT -1"};
    for (String outcome : wanted) {
      int times = reached.getOrDefault(outcome, 0);
      due.holds("the runs came to '" + outcome + "' only " + times + " times", times >= 50);
    }
  }
}
