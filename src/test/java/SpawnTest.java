/** Promise 11: spawn. */
final class SpawnTest implements Face {
  private static final Due due = new Due("SpawnTest");

  public static void main(String[] args) {
    due.sentence(11, "`spawn(type)` creates a process with domain `type`, with no policy check.", SpawnTest::creates);
    due.sentence(11, "Tests: `type` in `0..T-1`, else `ERR_ARG`;", SpawnTest::types);
    due.sentence(11, "then, if `MAX_PROCS` processes exist, `ERR_FULL`.", SpawnTest::full);
    due.sentence(11, "Otherwise the answer is the new pid, equal to the number of processes before.", SpawnTest::pid);
    due.sentence(11, "Processes are never removed, so pids are `0..` (number of processes − 1).",
        SpawnTest::neverRemoved);
    due.sentence(11, "Policies, objects, seq and the audit ring are not changed.", SpawnTest::nothingElse);
    due.end();
  }

  /** Under no policy, and under one that forbids everything. */
  private static void creates() {
    TypeEnforcer x = new TypeEnforcer(8, 4);
    for (int type = 7; type >= 4; type--) {
      x.spawn(type);
      due.is("domain", x.label(L_PROC_DOMAIN, 7 - type), type);
    }
    for (int type = 0; type < 8; type++) {
      x.stageMember(type, 0);
    }
    x.stageNeverallow(64, 64, CLASS_PROCESS, 255);
    x.commit();
    for (int type = 3; type >= 0; type--) {
      x.spawn(type);
      due.is("domain where all is forbidden", x.label(L_PROC_DOMAIN, 7 - type), type);
    }
    due.is("total", x.audit(0, AU_TOTAL), 0);
  }

  private static void types() {
    for (int types = Edges.MIN_TYPES; types <= Edges.MAX_TYPES; types++) {
      int t = types;
      due.takes("type of " + t, v -> Edges.isType(v, t), 0, v -> new TypeEnforcer(t, 4).spawn(v));
    }
    due.refuses(Op.SPAWN);
  }

  private static void full() {
    TypeEnforcer x = new TypeEnforcer(4, 4);
    for (int pid = 0; pid < 7; pid++) {
      x.spawn(0);
    }
    due.is("the last place", x.spawn(1), 7);
    due.is("past the last place", x.spawn(1), ERR_FULL);
    due.is("a wrong type past the last place", x.spawn(4), ERR_ARG);
    due.is("a negative type past the last place", x.spawn(-1), ERR_ARG);
    x.stageClear();
    x.commit();
    due.is("still past the last place", x.spawn(3), ERR_FULL);
    due.is("processes", x.policyInfo(PI_PROCS), 8);
    due.is("objects have places of their own", x.makeObject(0, 0), 0);
    due.leaves("spawn", World.FULL, y -> y.spawn(0), ERR_FULL);
    due.leaves("spawn of the last type", World.FULL, y -> y.spawn(11), ERR_FULL);
  }

  private static void pid() {
    TypeEnforcer x = new TypeEnforcer(4, 4);
    for (int pid = 0; pid < MAX_PROCS; pid++) {
      due.is("processes before", x.policyInfo(PI_PROCS), pid);
      x.spawn(-1);
      x.makeObject(0, 0);
      due.is("pid", x.spawn(pid % 4), pid);
      due.is("processes after", x.policyInfo(PI_PROCS), pid + 1);
    }
  }

  private static void neverRemoved() {
    TypeEnforcer x = new TypeEnforcer(12, 4);
    for (int n = 0; n <= MAX_PROCS; n++) {
      for (int pid = -2; pid < 20; pid++) {
        due.is("pid " + pid + " of " + n, x.label(L_PROC_DOMAIN, pid), pid >= 0 && pid < n ? 11 - pid : ERR_ARG);
      }
      x.spawn(11 - n);
      x.stageClear();
      x.commit();
    }
  }

  private static void nothingElse() {
    due.changes("spawn", World.BUSY, x -> x.spawn(5), 5, Snapshot.PROCESSES);
    due.changes("spawn", World.NEW, x -> x.spawn(3), 0, Snapshot.PROCESSES);
  }
}
