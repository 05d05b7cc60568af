/** Promise 4: stageNeverallow. */
final class NeverallowTest implements Face {
  private static final Due due = new Due("NeverallowTest");
  private static final RuleEdges edges = new RuleEdges(due, Op.STAGE_NEVERALLOW, MAX_NEVER);

  public static void main(String[] args) {
    due.sentence(4, "`stageNeverallow(src, tgt, cls, perms)` appends a neverallow assertion to the STAGED policy: no "
        + "type matching `src` may hold any bit of `perms` on any type matching `tgt` in class `cls`.",
        NeverallowTest::asserts);
    due.sentence(4, "It makes the same tests in the same order and gives the same answers as `stageAllow`",
        NeverallowTest::sameTests);
    due.sentence(4, "with the limit `MAX_NEVER` on the staged neverallow count.", () -> {
      edges.limit();
      edges.fullChangesNothing();
    });
    due.sentence(4, "Duplicates are kept.", NeverallowTest::duplicates);
    due.sentence(4, "Staging an assertion never changes the staged allow rules", NeverallowTest::allowStays);
    due.sentence(4, "and it does not itself check anything; the check happens at `commit()`.",
        NeverallowTest::checkedAtCommit);
    due.sentence(4, "Nothing outside the staged neverallow list changes.", NeverallowTest::nothingElse);
    due.end();
  }

  /** One bit of an assertion is enough, and nothing beside the assertion is forbidden. */
  private static void asserts() {
    for (int cls = 0; cls < 4; cls++) {
      for (int bit = 1; bit <= 128; bit *= 2) {
        for (int bits = 1; bits <= 128; bits *= 2) {
          TypeEnforcer x = new TypeEnforcer(4, 4);
          x.stageNeverallow(1, 2, cls, bits | 4);
          x.stageAllow(1, 2, cls, bit);
          x.stageAllow(2, 1, cls, 255);
          x.stageAllow(1, 2, (cls + 1) % 4, 255);
          boolean broken = bit == bits || bit == 4;
          due.is("bit " + bit + " of " + (bits | 4), x.commit(), broken ? ERR_NEVERALLOW : 1);
        }
      }
    }
  }

  private static void sameTests() {
    edges.source();
    edges.target();
    edges.cls();
    edges.perms();
    edges.index();
    due.refuses(Op.STAGE_NEVERALLOW);
  }

  /** The second of two alike is an assertion of its own, which the next one's index shows. */
  private static void duplicates() {
    edges.duplicates(PI_STAGED_NEVER);
    TypeEnforcer x = new TypeEnforcer(4, 4);
    x.stageNeverallow(0, 0, CLASS_FILE, 1);
    x.stageNeverallow(0, 0, CLASS_FILE, 1);
    x.stageNeverallow(1, 1, CLASS_FILE, 1);
    x.stageAllow(1, 1, CLASS_FILE, 1);
    x.commit();
    due.violation("assertion after two alike", x, 2, 1, 1, 1);
  }

  private static void allowStays() {
    TypeEnforcer x = new TypeEnforcer(4, 4);
    x.stageAllow(0, 1, CLASS_FILE, 255);
    x.stageAllow(1, SELF, CLASS_DIR, 7);
    Snapshot before = Snapshot.of(x);
    x.stageNeverallow(0, 1, CLASS_FILE, 255);
    x.stageNeverallow(1, 1, CLASS_DIR, 2);
    due.changed("assertions against the allow rules", before, Snapshot.of(x), Snapshot.STAGED_NEVER);
    due.is("allow count", x.policyInfo(PI_STAGED_ALLOW), 2);
    due.is("forbidden decision", x.decide(0, 1, CLASS_FILE, WHICH_STAGED), 255);
    due.is("forbidden decision on itself", x.decide(1, 1, CLASS_DIR, WHICH_STAGED), 7);
  }

  private static void checkedAtCommit() {
    TypeEnforcer x = new TypeEnforcer(4, 4);
    x.stageAllow(0, 1, CLASS_FILE, 1);
    due.is("broken assertion is staged", x.stageNeverallow(0, 1, CLASS_FILE, 1), 0);
    due.violation("before commit", x, NONE, NONE, NONE, NONE);
    due.is("another broken one is staged", x.stageNeverallow(0, 1, CLASS_FILE, 1), 1);
    due.is("allow against an assertion is staged", x.stageAllow(0, 1, CLASS_FILE, 1), 1);
    due.is("commit", x.commit(), ERR_NEVERALLOW);
    due.violation("after commit", x, 0, 0, 1, 1);
  }

  private static void nothingElse() {
    due.changes("never", World.BUSY.make(), x -> x.stageNeverallow(0, 5, CLASS_SOCKET, 255), 2,
        Snapshot.STAGED_NEVER);
    due.changes("never against an active decision", World.BUSY.make(),
        x -> x.stageNeverallow(64, 2, CLASS_FILE, P_READ), 2, Snapshot.STAGED_NEVER);
    due.changes("never on a new object", World.NEW.make(), x -> x.stageNeverallow(3, SELF, CLASS_FILE, 1), 0,
        Snapshot.STAGED_NEVER);
    TypeEnforcer x = World.BUSY.make();
    for (int i = 0; i < MAX_NEVER; i++) {
      x.stageNeverallow(0, 0, CLASS_FILE, 1);
      due.is("allow beside never", x.policyInfo(PI_STAGED_ALLOW), 8);
    }
    due.is("allow with never full", x.stageAllow(0, 0, CLASS_DIR, 1), 8);
    due.is("transition with never full", x.stageTransition(0, 0, CLASS_DIR, 1), 4);
  }
}
