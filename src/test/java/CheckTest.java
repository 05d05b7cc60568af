/** Promise 15: check. */
final class CheckTest {
  private static final int MIN = Integer.MIN_VALUE, MAX = Integer.MAX_VALUE;
  private static final Due due = new Due("CheckTest");

  public static void main(String[] args) {
    refused();
    everyPerms();
    everyClass();
    afterExec();
    due.end();
  }

  private static TypeEnforcer world() {
    TypeEnforcer x = new TypeEnforcer(6, 16);
    x.spawn(1);
    for (int cls = 0; cls < 4; cls++) {
      x.makeObject(3, cls);
    }
    return x;
  }

  private static void refused() {
    TypeEnforcer x = world();
    Snapshot before = Snapshot.of(x);
    for (int pid : new int[] {MIN, -1, 1, 8, MAX}) {
      due.is("pid " + pid, x.check(pid, 0, 1), -1);
    }
    for (int oid : new int[] {MIN, -1, 4, 16, MAX}) {
      due.is("oid " + oid, x.check(0, oid, 1), -1);
    }
    for (int perms : new int[] {MIN, -1, 0, 256, 257, MAX}) {
      due.is("perms " + perms, x.check(0, 0, perms), -1);
    }
    due.changed("refused check", before, Snapshot.of(x));
  }

  private static void everyPerms() {
    TypeEnforcer x = world();
    int granted = 0xA5;
    x.stageAllow(1, 3, 0, granted);
    x.commit();
    x.stageAllow(1, 3, 0, 255);
    int total = 0;
    for (int perms = 1; perms <= 255; perms++) {
      int missing = perms & ~granted;
      Snapshot before = Snapshot.of(x);
      due.is("check " + perms, x.check(0, 0, perms), missing);
      if (missing == 0) {
        due.changed("granted " + perms, before, Snapshot.of(x));
      } else {
        total++;
        due.changed("denied " + perms, before, Snapshot.of(x), Snapshot.AUDIT);
      }
      due.is("total", x.audit(0, 6), total);
    }
    due.is("one entry for each set of missing bits", x.audit(0, 5), 15);
    for (int i = 0; i < 15; i++) {
      due.is("missing bits alone, " + i, x.audit(i, 3) & granted, 0);
      due.is("count of entry " + i, x.audit(i, 4), 16);
    }
  }

  private static void everyClass() {
    TypeEnforcer x = world();
    for (int cls = 0; cls < 4; cls++) {
      x.stageAllow(1, 3, cls, 1 << cls);
    }
    x.commit();
    for (int cls = 0; cls < 4; cls++) {
      due.is("class " + cls, x.check(0, cls, 255), 255 & ~(1 << cls));
      due.is("src", x.audit(cls, 0), 1);
      due.is("tgt", x.audit(cls, 1), 3);
      due.is("class", x.audit(cls, 2), cls);
      due.is("perms", x.audit(cls, 3), 255 & ~(1 << cls));
      due.is("count", x.audit(cls, 4), 1);
    }
  }

  private static void afterExec() {
    TypeEnforcer x = world();
    x.stageTransition(1, 3, 2, 4);
    x.stageAllow(1, 3, 0, 4);
    x.stageAllow(1, 4, 2, 16);
    x.stageAllow(4, 3, 0, 34);
    x.commit();
    due.is("before exec", x.check(0, 0, 6), 2);
    due.is("exec", x.exec(0, 0), 4);
    due.is("after exec", x.check(0, 0, 6), 4);
    due.is("src of the denial", x.audit(1, 0), 4);
  }
}
