/**
 * Promises 7 and 13 count with Java's int arithmetic. Only so many calls bring
 * a count past the greatest int, so this test takes its time.
 */
final class WrapTest {
  private static final Due due = new Due("WrapTest");

  public static void main(String[] args) throws InterruptedException {
    TypeEnforcer commits = new TypeEnforcer(4, 4);
    TypeEnforcer denials = new TypeEnforcer(4, 4);
    denials.spawn(0);
    denials.makeObject(0, 0);
    Thread committing = new Thread(() -> commitToTheEnd(commits));
    committing.start();
    denyToTheEnd(denials);
    committing.join();
    due.is("seq at the end", commits.policyInfo(0), Integer.MAX_VALUE);
    due.is("commit past the end", commits.commit(), Integer.MIN_VALUE);
    due.is("seq past the end", commits.policyInfo(0), Integer.MIN_VALUE);
    due.is("total at the end", denials.audit(0, 6), Integer.MAX_VALUE);
    due.is("denial past the end", denials.check(0, 0, 1), 1);
    due.is("total past the end", denials.audit(0, 6), Integer.MIN_VALUE);
    due.is("held past the end", denials.audit(0, 5), 1);
    due.end();
  }

  private static void commitToTheEnd(TypeEnforcer x) {
    for (int i = 0; i < Integer.MAX_VALUE; i++) {
      x.commit();
    }
  }

  private static void denyToTheEnd(TypeEnforcer x) {
    for (int i = 0; i < Integer.MAX_VALUE; i++) {
      x.check(0, 0, 1);
    }
  }
}
