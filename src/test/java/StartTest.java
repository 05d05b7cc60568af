/** Promise 1: construction and the starting state. */
final class StartTest implements Face {
  private static final Due due = new Due("StartTest");

  public static void main(String[] args) {
    due.sentence(1, "`TypeEnforcer(int types, int auditSize)` never fails.", StartTest::neverFails);
    due.sentence(1, "T is `types` clamped into `4..12`: a value below 4 becomes 4, a value above 12 becomes 12, any "
        + "other value is kept.", StartTest::types);
    due.sentence(1, "N, the audit ring capacity, is `auditSize` clamped into `4..16` in the same way.",
        StartTest::auditSize);
    due.sentence(1, "Any int is accepted, including negative values and `Integer.MIN_VALUE` / "
        + "`Integer.MAX_VALUE`.", StartTest::anyInt);
    due.sentence(1, "T and N never change afterwards.", StartTest::sizesStay);
    due.sentence(1, "At the start both policies are empty (no memberships, no allow, neverallow or transition "
        + "rules)", StartTest::policiesEmpty);
    due.sentence(1, "seq is 0", StartTest::seqZero);
    due.sentence(1, "there are no processes and no objects", StartTest::nothingRuns);
    due.sentence(1, "the audit ring holds no entries and its total is 0", StartTest::ringEmpty);
    due.sentence(1, "and all four violation fields are `NONE`.", StartTest::noViolation);
    objectsAreApart();
    due.end();
  }

  private static int clamped(int v, int low, int high) {
    return Math.max(low, Math.min(high, v));
  }

  /** The object that comes of it can be used: one that failed half-way could not. */
  private static void neverFails() {
    for (int types : Edges.VALUES) {
      TypeEnforcer x = new TypeEnforcer(types, types);
      due.is("commit of " + types, x.commit(), 1);
      due.is("spawn of " + types, x.spawn(0), 0);
      due.is("makeObject of " + types, x.makeObject(0, 0), 0);
      due.is("check of " + types, x.check(0, 0, 1), 1);
      due.is("held of " + types, x.audit(0, AU_HELD), 1);
    }
  }

  private static void types() {
    for (int given : Edges.VALUES) {
      int kept = clamped(given, 4, 12);
      TypeEnforcer x = new TypeEnforcer(given, 4);
      due.is("types " + given, x.policyInfo(PI_TYPES), kept);
      due.is("last type of " + given, x.spawn(kept - 1), 0);
      due.is("type past the last of " + given, x.spawn(kept), ERR_ARG);
    }
  }

  private static int mostHeld(TypeEnforcer x) {
    x.spawn(0);
    x.makeObject(0, CLASS_FILE);
    for (int perms = 1; perms <= 40; perms++) {
      x.check(0, 0, perms);
    }
    return x.audit(0, AU_HELD);
  }

  private static void auditSize() {
    for (int given : Edges.VALUES) {
      due.is("audit size " + given, mostHeld(new TypeEnforcer(4, given)), clamped(given, 4, 16));
    }
  }

  /** Each of the two is clamped by itself, whatever the other is. */
  private static void anyInt() {
    int[] some = {Edges.MIN, Edges.MIN + 1, -1, 0, 3, 4, 5, 11, 12, 13, 15, 16, 17, Edges.MAX - 1, Edges.MAX};
    for (int types : some) {
      for (int size : some) {
        TypeEnforcer x = new TypeEnforcer(types, size);
        due.is("types " + types + " with " + size, x.policyInfo(PI_TYPES), clamped(types, 4, 12));
        due.is("audit size " + size + " with " + types, mostHeld(x), clamped(size, 4, 16));
      }
    }
  }

  private static void sizesStay() {
    for (int types = Edges.MIN_TYPES; types <= Edges.MAX_TYPES; types++) {
      for (int size = Edges.MIN_AUDIT; size <= Edges.MAX_AUDIT; size++) {
        TypeEnforcer x = new TypeEnforcer(types, size);
        work(x, types);
        due.is("types after work", x.policyInfo(PI_TYPES), types);
        due.is("last type after work", x.decide(types - 1, types - 1, 0, WHICH_ACTIVE), 0);
        due.is("type past the last after work", x.decide(types, 0, 0, WHICH_ACTIVE), ERR_ARG);
        due.is("audit size after work", mostHeld(x), size);
      }
    }
  }

  private static void work(TypeEnforcer x, int types) {
    for (int type = 0; type < types; type++) {
      x.stageMember(type, type % 8);
      x.stageAllow(type, 64, type % 4, 255);
      x.stageTransition(type, 64, type % 4, 0);
      x.spawn(type);
      x.makeObject(type, type % 2);
    }
    x.commit();
    x.stageNeverallow(64, 64, 0, 255);
    x.commit();
    x.exec(0, 0);
    x.create(0, 1, 0);
    x.check(0, 0, 255);
    x.stageClear();
    x.commit();
    x.exec(0, 0);
    x.create(0, 1, 0);
    x.stageMember(types, 0);
    x.spawn(types);
  }

  private static TypeEnforcer[] all() {
    return new TypeEnforcer[] {new TypeEnforcer(4, 4), new TypeEnforcer(12, 16), new TypeEnforcer(7, 5),
        new TypeEnforcer(Edges.MIN, Edges.MAX), new TypeEnforcer(Edges.MAX, Edges.MIN)};
  }

  private static void policiesEmpty() {
    for (TypeEnforcer x : all()) {
      for (int field = PI_STAGED_ALLOW; field <= PI_ACTIVE_TRANS; field++) {
        due.is("rule count " + field, x.policyInfo(field), 0);
      }
      for (int s = 0; s < x.policyInfo(PI_TYPES); s++) {
        for (int attr = 0; attr < NUM_ATTRS; attr++) {
          due.is("active member", x.policyQuery(Q_MEMBER_ACTIVE, s, attr, 0), 0);
          due.is("staged member", x.policyQuery(Q_MEMBER_STAGED, s, attr, 0), 0);
        }
        for (int t = 0; t < x.policyInfo(PI_TYPES); t++) {
          for (int cls = 0; cls < 4; cls++) {
            due.is("active decision", x.decide(s, t, cls, WHICH_ACTIVE), 0);
            due.is("staged decision", x.decide(s, t, cls, WHICH_STAGED), 0);
            due.is("active transition", x.policyQuery(Q_TRANS_ACTIVE, s, t, cls), NONE);
            due.is("staged transition", x.policyQuery(Q_TRANS_STAGED, s, t, cls), NONE);
          }
        }
      }
    }
  }

  private static void seqZero() {
    for (TypeEnforcer x : all()) {
      due.is("seq", x.policyInfo(PI_SEQ), 0);
    }
  }

  private static void nothingRuns() {
    for (TypeEnforcer x : all()) {
      due.is("processes", x.policyInfo(PI_PROCS), 0);
      due.is("objects", x.policyInfo(PI_OBJECTS), 0);
      for (int kind = L_PROC_DOMAIN; kind <= L_OBJ_CLASS; kind++) {
        int k = kind;
        due.takes("label kind " + kind, v -> false, 0, v -> x.label(k, v));
      }
    }
  }

  private static void ringEmpty() {
    for (TypeEnforcer x : all()) {
      due.ring("at the start", x, 0);
    }
  }

  private static void noViolation() {
    for (TypeEnforcer x : all()) {
      due.violation("at the start", x, NONE, NONE, NONE, NONE);
    }
  }

  private static void objectsAreApart() {
    TypeEnforcer x = new TypeEnforcer(4, 4);
    TypeEnforcer y = new TypeEnforcer(4, 4);
    Snapshot before = Snapshot.of(y);
    work(x, 4);
    due.changed("work on another object", before, Snapshot.of(y));
  }
}
