/** Promise 15: check. */
final class CheckTest implements Face {
  private static final Due due = new Due("CheckTest");

  public static void main(String[] args) {
    due.sentence(15, "`check(pid, oid, perms)`: process `pid` asks for `perms` on object `oid`, using the ACTIVE "
        + "policy.", CheckTest::onlyActive);
    due.sentence(15, "Tests: `pid` a process", CheckTest::pids);
    due.sentence(15, "`oid` an object", CheckTest::oids);
    due.sentence(15, "`perms` in `1..255`, else `ERR_ARG` (nothing changes).", CheckTest::perms);
    due.sentence(15, "Then d = domain of `pid`, t = type and c = class of `oid`, and m = `perms & ~V(d,t,c)`.",
        CheckTest::missing);
    due.sentence(15, "If m != 0, AUDIT(d, t, c, m).", CheckTest::audited);
    due.sentence(15, "The answer is m; 0 means granted.", CheckTest::answer);
    due.sentence(15, "No label or policy changes.", CheckTest::nothingElse);
    due.end();
  }

  /** Process 0 in domain 1; object c of type 3 and class c. */
  private static TypeEnforcer world() {
    TypeEnforcer x = new TypeEnforcer(6, 16);
    x.spawn(1);
    for (int cls = 0; cls < 4; cls++) {
      x.makeObject(3, cls);
    }
    return x;
  }

  private static void onlyActive() {
    TypeEnforcer x = world();
    x.stageAllow(1, 3, CLASS_FILE, 255);
    due.is("staged alone", x.check(0, 0, 255), 255);
    x.commit();
    x.stageClear();
    due.is("active alone", x.check(0, 0, 255), 0);
    x.stageNeverallow(1, 3, CLASS_FILE, 255);
    due.is("a staged assertion", x.check(0, 0, 255), 0);
    x.commit();
    due.is("nothing allowed any more", x.check(0, 0, 255), 255);
  }

  private static void pids() {
    for (int n = 0; n <= MAX_PROCS; n++) {
      TypeEnforcer x = new TypeEnforcer(4, 4);
      x.makeObject(0, CLASS_FILE);
      for (int pid = 0; pid < n; pid++) {
        x.spawn(0);
      }
      int procs = n;
      due.takes("pid of " + n, v -> v >= 0 && v < procs, 1, v -> x.check(v, 0, 1));
    }
  }

  private static void oids() {
    for (int n = 0; n <= MAX_OBJECTS; n++) {
      TypeEnforcer x = new TypeEnforcer(4, 4);
      x.spawn(0);
      for (int oid = 0; oid < n; oid++) {
        x.makeObject(0, oid % 4);
      }
      int objects = n;
      due.takes("oid of " + n, v -> v >= 0 && v < objects, 1, v -> x.check(0, v, 1));
    }
  }

  private static void perms() {
    TypeEnforcer x = world();
    x.stageAllow(1, 3, CLASS_FILE, 255);
    x.commit();
    due.takes("perms, all granted", v -> v >= 1 && v <= 255, 0, v -> x.check(0, 0, v));
    for (int v : Edges.VALUES) {
      due.is("perms " + v + ", none granted", world().check(0, 1, v), v >= 1 && v <= 255 ? v : ERR_ARG);
    }
    due.refuses(Op.CHECK);
  }

  /** Each process and each object has labels of its own, and each pair of them another permission. */
  private static void missing() {
    TypeEnforcer x = new TypeEnforcer(6, 16);
    x.spawn(1);
    x.spawn(2);
    for (int type = 3; type < 5; type++) {
      for (int cls = 0; cls < 4; cls++) {
        x.makeObject(type, cls);
        x.stageAllow(1, type, cls, type * 4 + cls);
        x.stageAllow(2, type, cls, 255 - type * 4 - cls);
      }
    }
    x.commit();
    for (int oid = 0; oid < 8; oid++) {
      int given = (3 + oid / 4) * 4 + oid % 4;
      for (int perms = 1; perms <= 255; perms++) {
        due.is("process 0, object " + oid + ", perms " + perms, x.check(0, oid, perms), perms & ~given);
        due.is("process 1, object " + oid + ", perms " + perms, x.check(1, oid, perms), perms & given);
      }
    }
  }

  private static void audited() {
    for (int cls = 0; cls < 4; cls++) {
      TypeEnforcer x = world();
      x.stageAllow(1, 3, cls, 0xA5);
      x.commit();
      x.check(0, cls, 0xA5);
      due.ring("all granted", x, 0);
      x.check(0, cls, 255);
      due.ring("some missing", x, 1, new int[] {1, 3, cls, 0x5A, 1});
      x.check(0, cls, 0x5A);
      due.ring("the same bits missing", x, 2, new int[] {1, 3, cls, 0x5A, 2});
      x.check(0, cls, 0x21);
      due.ring("granted again", x, 2, new int[] {1, 3, cls, 0x5A, 2});
      x.check(0, cls, 0x41);
      due.ring("one bit missing", x, 3, new int[] {1, 3, cls, 0x5A, 2}, new int[] {1, 3, cls, 0x40, 1});
    }
    domainAfterExec();
  }

  private static void domainAfterExec() {
    TypeEnforcer x = world();
    x.stageTransition(1, 3, CLASS_PROCESS, 4);
    x.stageAllow(1, 3, CLASS_FILE, P_EXECUTE);
    x.stageAllow(1, 4, CLASS_PROCESS, P_TRANSITION);
    x.stageAllow(4, 3, CLASS_FILE, P_ENTRYPOINT | P_WRITE);
    x.commit();
    due.is("before exec", x.check(0, 0, P_WRITE | P_EXECUTE), P_WRITE);
    due.is("exec", x.exec(0, 0), 4);
    due.is("after exec", x.check(0, 0, P_WRITE | P_EXECUTE), P_EXECUTE);
    due.ring("each in the domain of its time", x, 2, new int[] {1, 3, CLASS_FILE, P_WRITE, 1},
        new int[] {4, 3, CLASS_FILE, P_EXECUTE, 1});
  }

  private static void answer() {
    for (int granted = 1; granted <= 255; granted++) {
      TypeEnforcer x = world();
      x.stageAllow(1, 3, CLASS_FILE, granted);
      x.commit();
      due.is("just what is granted", x.check(0, 0, granted), 0);
      due.is("everything", x.check(0, 0, 255), 255 & ~granted);
      due.is("nothing is granted on another object", x.check(0, 1, granted), granted);
    }
  }

  private static void nothingElse() {
    due.changes("denied", World.BUSY, x -> x.check(0, 0, 255), 255 & ~(P_READ | P_EXECUTE), Snapshot.AUDIT);
    due.changes("denied again", World.BUSY, x -> x.check(0, 0, P_WRITE), P_WRITE, Snapshot.AUDIT);
    due.changes("denied with a full ring", World.FULL, x -> x.check(7, 15, P_READ), P_READ, Snapshot.AUDIT);
    due.leaves("granted", World.BUSY, x -> x.check(0, 0, P_READ | P_EXECUTE), 0);
  }
}
