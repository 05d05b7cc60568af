/**
 * Promises 7 and 13 count with Java's int arithmetic. Only so many calls bring
 * a count past the greatest int, so this test takes its time.
 */
final class WrapTest implements Face {
  private static final Due due = new Due("WrapTest");
  private static final TypeEnforcer commits = new TypeEnforcer(4, 4);
  private static final TypeEnforcer denials = new TypeEnforcer(4, 4);

  public static void main(String[] args) throws InterruptedException {
    denials.spawn(0);
    denials.makeObject(0, CLASS_FILE);
    Thread committing = new Thread(WrapTest::commitToTheEnd);
    committing.start();
    denyToTheEnd();
    committing.join();
    due.sentence(7, "seq increases by 1 (Java int arithmetic);", WrapTest::seqWraps);
    due.sentence(13, "the total increases by 1 (Java int arithmetic);", WrapTest::totalWraps);
    due.end();
  }

  private static void commitToTheEnd() {
    for (int i = 0; i < Integer.MAX_VALUE; i++) {
      commits.commit();
    }
  }

  private static void denyToTheEnd() {
    for (int i = 0; i < Integer.MAX_VALUE; i++) {
      denials.check(0, 0, 1);
    }
  }

  private static void seqWraps() {
    due.is("seq at the end", commits.policyInfo(PI_SEQ), Integer.MAX_VALUE);
    commits.stageAllow(0, 0, CLASS_FILE, 1);
    commits.stageNeverallow(0, 0, CLASS_FILE, 1);
    due.changes("refused at the end", commits, TypeEnforcer::commit, ERR_NEVERALLOW, Snapshot.VIOLATION);
    commits.stageClear();
    commits.stageAllow(0, 0, CLASS_FILE, 1);
    due.changes("commit past the end", commits, TypeEnforcer::commit, Integer.MIN_VALUE, Snapshot.SEQ,
        Snapshot.VIOLATION, Snapshot.ACTIVE);
    due.is("seq past the end", commits.policyInfo(PI_SEQ), Integer.MIN_VALUE);
    due.is("next commit", commits.commit(), Integer.MIN_VALUE + 1);
    due.is("seq after it", commits.policyInfo(PI_SEQ), Integer.MIN_VALUE + 1);
  }

  private static void totalWraps() {
    due.ring("at the end", denials, Integer.MAX_VALUE, new int[] {0, 0, CLASS_FILE, 1, Integer.MAX_VALUE});
    due.changes("denial past the end", denials, x -> x.check(0, 0, 2), 2, Snapshot.AUDIT);
    due.ring("past the end", denials, Integer.MIN_VALUE, new int[] {0, 0, CLASS_FILE, 1, Integer.MAX_VALUE},
        new int[] {0, 0, CLASS_FILE, 2, 1});
    due.changes("next denial", denials, x -> x.exec(0, 0), ERR_DENIED, Snapshot.AUDIT);
    due.ring("after it", denials, Integer.MIN_VALUE + 1, new int[] {0, 0, CLASS_FILE, 1, Integer.MAX_VALUE},
        new int[] {0, 0, CLASS_FILE, 2, 1}, new int[] {0, 0, CLASS_FILE, P_EXECUTE, 1});
  }
}
