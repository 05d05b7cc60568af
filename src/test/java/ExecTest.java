/** Promise 13: exec. The audit ring itself is in AuditTest. */
final class ExecTest {
  private static final int MIN = Integer.MIN_VALUE, MAX = Integer.MAX_VALUE;
  private static final Due due = new Due("ExecTest");

  public static void main(String[] args) {
    refused();
    stepByStep();
    staysInDomain();
    transitionToItself();
    chain();
    onlyActive();
    due.end();
  }

  /** Process 0 in domain 1, process 1 in domain 2; object 0 a file of type 3. */
  private static TypeEnforcer world() {
    TypeEnforcer x = new TypeEnforcer(6, 4);
    x.spawn(1);
    x.spawn(2);
    x.makeObject(3, 0);
    return x;
  }

  private static void entry(TypeEnforcer x, int i, int s, int t, int c, int p) {
    due.is("held", x.audit(0, 5), i + 1);
    due.is("src", x.audit(i, 0), s);
    due.is("tgt", x.audit(i, 1), t);
    due.is("class", x.audit(i, 2), c);
    due.is("perms", x.audit(i, 3), p);
    due.is("count", x.audit(i, 4), 1);
  }

  private static void refused() {
    TypeEnforcer x = world();
    x.makeObject(3, 1);
    x.makeObject(3, 2);
    x.makeObject(3, 3);
    x.stageAllow(1, 3, 0, 255);
    x.stageAllow(1, 3, 1, 255);
    x.stageAllow(1, 3, 2, 255);
    x.stageAllow(1, 3, 3, 255);
    x.commit();
    Snapshot before = Snapshot.of(x);
    for (int pid : new int[] {MIN, -1, 2, 8, MAX}) {
      due.is("pid " + pid, x.exec(pid, 0), -1);
    }
    for (int oid : new int[] {MIN, -1, 4, 16, MAX}) {
      due.is("oid " + oid, x.exec(0, oid), -1);
    }
    for (int oid = 1; oid <= 3; oid++) {
      due.is("object of class " + oid, x.exec(0, oid), -1);
    }
    due.changed("refused exec", before, Snapshot.of(x));
  }

  /** Each step's permission is given one after the other. */
  private static void stepByStep() {
    TypeEnforcer x = world();
    x.stageTransition(1, 3, 2, 4);
    x.stageAllow(1, 3, 0, 255 & ~4);
    x.commit();
    deniedOnce(x);
    entry(x, 0, 1, 3, 0, 4);
    x.stageAllow(1, 3, 0, 4);
    x.stageAllow(1, 4, 2, 255 & ~16);
    x.commit();
    deniedOnce(x);
    entry(x, 1, 1, 4, 2, 16);
    x.stageAllow(1, 4, 2, 16);
    x.stageAllow(4, 3, 0, 255 & ~32);
    x.commit();
    deniedOnce(x);
    entry(x, 2, 4, 3, 0, 32);
    x.stageAllow(4, 3, 0, 32);
    x.commit();
    Snapshot before = Snapshot.of(x);
    due.is("exec", x.exec(0, 0), 4);
    due.changed("exec", before, Snapshot.of(x), Snapshot.PROCESSES);
    due.is("new domain", x.label(0, 0), 4);
    due.is("domain of the other process", x.label(0, 1), 2);
  }

  private static void deniedOnce(TypeEnforcer x) {
    int total = x.audit(0, 6);
    Snapshot before = Snapshot.of(x);
    due.is("denied exec", x.exec(0, 0), -4);
    due.changed("denied exec", before, Snapshot.of(x), Snapshot.AUDIT);
    due.is("total", x.audit(0, 6), total + 1);
  }

  private static void staysInDomain() {
    TypeEnforcer x = world();
    x.stageAllow(1, 3, 0, 4);
    x.stageTransition(1, 3, 0, 4);
    x.stageTransition(2, 3, 2, 4);
    x.commit();
    Snapshot before = Snapshot.of(x);
    due.is("exec without a transition", x.exec(0, 0), 1);
    due.changed("exec without a transition", before, Snapshot.of(x));
  }

  private static void transitionToItself() {
    TypeEnforcer x = world();
    x.stageAllow(1, 3, 0, 4);
    x.stageTransition(1, 3, 2, 1);
    x.stageTransition(1, 3, 2, 4);
    x.commit();
    Snapshot before = Snapshot.of(x);
    due.is("exec to the own domain needs no more", x.exec(0, 0), 1);
    due.changed("exec to the own domain", before, Snapshot.of(x));
  }

  private static void chain() {
    TypeEnforcer x = world();
    x.stageMember(1, 0);
    x.stageMember(0, 0);
    x.stageMember(5, 0);
    x.stageAllow(64, 3, 0, 36);
    x.stageAllow(64, 64, 2, 16);
    x.stageTransition(1, 3, 2, 0);
    x.stageTransition(0, 3, 2, 5);
    x.commit();
    due.is("first exec, to type 0", x.exec(0, 0), 0);
    due.is("second exec", x.exec(0, 0), 5);
    due.is("third exec", x.exec(0, 0), 5);
    due.is("total", x.audit(0, 6), 0);
  }

  private static void onlyActive() {
    TypeEnforcer x = world();
    x.stageAllow(1, 3, 0, 4);
    due.is("staged alone", x.exec(0, 0), -4);
    x.commit();
    x.stageTransition(1, 3, 2, 4);
    due.is("staged transition", x.exec(0, 0), 1);
    x.stageClear();
    due.is("cleared stage", x.exec(0, 0), 1);
  }
}
