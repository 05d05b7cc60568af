/** Promise 8: policyInfo. */
final class InfoTest implements Face {
  private static final Due due = new Due("InfoTest");

  public static void main(String[] args) {
    due.sentence(8, "`policyInfo(field)` answers, without changing anything", InfoTest::changesNothing);
    due.sentence(8, "`PI_SEQ`: seq, the number of successful commits.", InfoTest::seq);
    due.sentence(8, "`PI_VIOL_INDEX`, `PI_VIOL_SRC`, `PI_VIOL_TGT`, `PI_VIOL_PERMS`: the four violation fields (`NONE` "
        + "at the start and after a successful commit; the values of the last refused commit otherwise).",
        InfoTest::violation);
    due.sentence(8, "`PI_STAGED_ALLOW`, `PI_STAGED_NEVER`, `PI_STAGED_TRANS`: rule counts of the staged lists.",
        InfoTest::stagedCounts);
    due.sentence(8, "`PI_ACTIVE_ALLOW`, `PI_ACTIVE_NEVER`, `PI_ACTIVE_TRANS`: rule counts of the active lists.",
        InfoTest::activeCounts);
    due.sentence(8, "`PI_TYPES`: T.", InfoTest::types);
    due.sentence(8, "`PI_PROCS`: number of processes.", InfoTest::processes);
    due.sentence(8, "`PI_OBJECTS`: number of objects.", InfoTest::objects);
    due.sentence(8, "Any other field value answers `ERR_ARG`.", InfoTest::otherFields);
    due.end();
  }

  private static void changesNothing() {
    for (World world : World.values()) {
      due.leaves("every field", world, x -> {
        for (int field = -2; field <= 20; field++) {
          x.policyInfo(field);
        }
        return 0;
      }, 0);
    }
    for (int field = 0; field <= 13; field++) {
      due.reads(Op.POLICY_INFO, field);
    }
    due.refuses(Op.POLICY_INFO);
  }

  private static void seq() {
    TypeEnforcer x = new TypeEnforcer(4, 4);
    due.is("seq at the start", x.policyInfo(PI_SEQ), 0);
    x.commit();
    x.commit();
    due.is("seq after two commits", x.policyInfo(PI_SEQ), 2);
    x.stageAllow(0, 0, CLASS_FILE, 1);
    x.stageNeverallow(0, 0, CLASS_FILE, 1);
    x.commit();
    due.is("seq after a refused commit too", x.policyInfo(PI_SEQ), 2);
  }

  private static void violation() {
    TypeEnforcer x = new TypeEnforcer(6, 4);
    due.violation("at the start", x, NONE, NONE, NONE, NONE);
    x.stageNeverallow(0, 0, CLASS_FILE, 255);
    x.stageNeverallow(5, 4, CLASS_SOCKET, 255);
    due.violation("before a commit", x, NONE, NONE, NONE, NONE);
    x.commit();
    due.violation("after a commit", x, NONE, NONE, NONE, NONE);
    x.stageAllow(5, 4, CLASS_SOCKET, 130);
    due.violation("before the refused commit", x, NONE, NONE, NONE, NONE);
    x.commit();
    due.violation("after the refused commit", x, 1, 5, 4, 130);
    x.stageAllow(0, 0, CLASS_FILE, 1);
    x.spawn(9);
    x.policyInfo(99);
    due.violation("before the next refused commit", x, 1, 5, 4, 130);
    x.commit();
    due.violation("after the next refused commit", x, 0, 0, 0, 1);
    x.stageClear();
    due.violation("after stageClear", x, 0, 0, 0, 1);
    x.commit();
    due.violation("after the next commit", x, NONE, NONE, NONE, NONE);
  }

  /** The three lists have counts of their own, up to their limits. */
  private static void stage(TypeEnforcer x, int allow, int never, int trans) {
    x.stageClear();
    for (int i = 0; i < allow; i++) {
      x.stageAllow(0, 0, CLASS_FILE, 1);
    }
    for (int i = 0; i < never; i++) {
      x.stageNeverallow(1, 1, CLASS_FILE, 1);
    }
    for (int i = 0; i < trans; i++) {
      x.stageTransition(0, 0, CLASS_FILE, 1);
    }
  }

  private static void counts(TypeEnforcer x, int field, int allow, int never, int trans) {
    due.is("allow count", x.policyInfo(field), allow);
    due.is("never count", x.policyInfo(field + 1), never);
    due.is("transition count", x.policyInfo(field + 2), trans);
  }

  private static void stagedCounts() {
    TypeEnforcer x = new TypeEnforcer(4, 4);
    counts(x, PI_STAGED_ALLOW, 0, 0, 0);
    for (int allow = 0; allow <= MAX_ALLOW + 1; allow++) {
      for (int never = 0; never <= MAX_NEVER + 1; never++) {
        for (int trans = 0; trans <= MAX_TRANS + 1; trans++) {
          stage(x, allow, never, trans);
          counts(x, PI_STAGED_ALLOW, Math.min(allow, 24), Math.min(never, 6), Math.min(trans, 12));
          counts(x, PI_ACTIVE_ALLOW, 0, 0, 0);
        }
      }
    }
  }

  private static void activeCounts() {
    TypeEnforcer x = new TypeEnforcer(4, 4);
    counts(x, PI_ACTIVE_ALLOW, 0, 0, 0);
    for (int n = 0; n <= MAX_ALLOW; n++) {
      int never = n % (MAX_NEVER + 1);
      int trans = (n + 5) % (MAX_TRANS + 1);
      stage(x, n, never, trans);
      x.commit();
      x.stageClear();
      counts(x, PI_ACTIVE_ALLOW, n, never, trans);
      counts(x, PI_STAGED_ALLOW, 0, 0, 0);
      stage(x, 24, 6, 12);
      x.stageNeverallow(0, 0, CLASS_FILE, 1);
      counts(x, PI_ACTIVE_ALLOW, n, never, trans);
    }
  }

  private static void types() {
    for (int types = Edges.MIN_TYPES; types <= Edges.MAX_TYPES; types++) {
      due.is("types", new TypeEnforcer(types, 16 - types).policyInfo(PI_TYPES), types);
    }
  }

  private static void processes() {
    TypeEnforcer x = new TypeEnforcer(4, 4);
    x.makeObject(0, 0);
    for (int n = 0; n <= MAX_PROCS + 2; n++) {
      due.is("processes", x.policyInfo(PI_PROCS), Math.min(n, MAX_PROCS));
      x.spawn(4);
      due.is("processes after a refused spawn", x.policyInfo(PI_PROCS), Math.min(n, MAX_PROCS));
      x.spawn(0);
    }
  }

  private static void objects() {
    TypeEnforcer x = new TypeEnforcer(4, 4);
    x.spawn(0);
    for (int n = 0; n <= MAX_OBJECTS + 2; n++) {
      due.is("objects", x.policyInfo(PI_OBJECTS), Math.min(n, MAX_OBJECTS));
      x.makeObject(4, 0);
      due.is("objects after a refused makeObject", x.policyInfo(PI_OBJECTS), Math.min(n, MAX_OBJECTS));
      x.makeObject(0, CLASS_FILE);
    }
  }

  private static void otherFields() {
    for (int v : Edges.VALUES) {
      for (World world : new World[] {World.NEW, World.FULL}) {
        if (v < 0 || v > 13) {
          due.is("field " + v + " in " + world, world.make().policyInfo(v), ERR_ARG);
        }
      }
    }
    TypeEnforcer x = World.BUSY.make();
    int[] want = {1, 0, 5, 5, P_SIGNAL, 8, 2, 4, 7, 1, 3, 6, 5, 4};
    for (int field = 0; field < want.length; field++) {
      due.is("field " + field, x.policyInfo(field), want[field]);
    }
  }
}
