/** Promise 6: stageClear. */
final class ClearTest implements Face {
  private static final Due due = new Due("ClearTest");

  public static void main(String[] args) {
    due.sentence(6, "`stageClear()` empties the STAGED policy: no memberships and no allow, neverallow or transition "
        + "rules remain in it.", ClearTest::empties);
    due.sentence(6, "The active policy, seq, violation fields, processes, objects and audit ring are untouched.",
        ClearTest::restStays);
    due.sentence(6, "It always succeeds, also on an already empty staged policy.", ClearTest::alwaysSucceeds);
    due.end();
  }

  private static int clear(TypeEnforcer x) {
    x.stageClear();
    return 0;
  }

  private static void fill(TypeEnforcer x) {
    for (int i = 0; i < MAX_ALLOW; i++) {
      x.stageAllow(i % 12, 64 + i % 8, i % 4, 255);
      x.stageNeverallow(64 + i % 8, SELF, i % 4, 255);
      x.stageTransition(i % 12, 64 + i % 8, i % 4, i % 12);
    }
    for (int type = 0; type < 12; type++) {
      for (int attr = 0; attr < NUM_ATTRS; attr++) {
        x.stageMember(type, attr);
      }
    }
  }

  /** What was staged and cleared is as if it had never been staged, in all that can come later. */
  private static void empties() {
    due.changed("filled and cleared", Future.of(() -> new TypeEnforcer(12, 4)), Future.of(() -> {
      TypeEnforcer x = new TypeEnforcer(12, 4);
      fill(x);
      x.stageClear();
      return x;
    }));
    TypeEnforcer x = new TypeEnforcer(12, 4);
    fill(x);
    x.stageClear();
    for (int field = PI_STAGED_ALLOW; field <= PI_STAGED_TRANS; field++) {
      due.is("staged count " + field, x.policyInfo(field), 0);
    }
    for (int type = 0; type < 12; type++) {
      for (int attr = 0; attr < NUM_ATTRS; attr++) {
        due.is("member " + type + "," + attr, x.policyQuery(Q_MEMBER_STAGED, type, attr, 0), 0);
      }
    }
    due.is("commit of what is left", x.commit(), 1);
  }

  private static void restStays() {
    String[] staged = {Snapshot.STAGED_ALLOW, Snapshot.STAGED_DECISIONS, Snapshot.STAGED_MEMBERS,
        Snapshot.STAGED_NEVER, Snapshot.STAGED_TRANS, Snapshot.STAGED_TRANSITIONS};
    due.changes("stageClear in BUSY", World.BUSY.make(), ClearTest::clear, 0, staged);
    due.changes("stageClear in FULL", World.FULL.make(), ClearTest::clear, 0, staged);
    TypeEnforcer x = World.BUSY.make();
    x.stageClear();
    due.violation("of the refused commit before", x, 0, 5, 5, P_SIGNAL);
    due.is("seq", x.policyInfo(PI_SEQ), 1);
    due.is("a granted check", x.check(0, 0, P_READ), 0);
    due.is("commit after stageClear", x.commit(), 2);
  }

  private static void alwaysSucceeds() {
    due.leaves("stageClear", World.NEW, ClearTest::clear, 0);
    TypeEnforcer x = World.FULL.make();
    x.stageClear();
    due.changes("stageClear again", x, ClearTest::clear, 0);
    for (int round = 0; round < 3; round++) {
      fill(x);
      x.stageClear();
      due.is("allow after stageClear", x.stageAllow(0, 0, CLASS_FILE, 1), 0);
      due.is("never after stageClear", x.stageNeverallow(0, 1, CLASS_FILE, 1), 0);
      due.is("transition after stageClear", x.stageTransition(0, 0, CLASS_FILE, 1), 0);
      due.is("member after stageClear", x.stageMember(11, 7), 1);
      due.is("commit after stageClear", x.commit(), 2 + round);
    }
  }
}
