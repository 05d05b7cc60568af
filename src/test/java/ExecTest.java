/** Promise 13: exec. The ring that it writes to is in RingTest. */
final class ExecTest implements Face {
  private static final Due due = new Due("ExecTest");
  /** The domain, the file's type and the domain to come. */
  private static final int D = 1, F = 3, N = 4;

  public static void main(String[] args) {
    due.sentence(13, "`exec(pid, oid)`: process `pid` executes file object `oid`.", ExecTest::everyPidAndOid);
    due.sentence(13, "All decisions use the ACTIVE policy.", ExecTest::onlyActive);
    due.sentence(13, "Steps in order:", ExecTest::order);
    due.sentence(13, "`pid` not a process", ExecTest::pids);
    due.sentence(13, "`oid` not an object", ExecTest::oids);
    due.sentence(13, "or the class of `oid` not `CLASS_FILE`: `ERR_ARG`.", ExecTest::classes);
    due.sentence(13, "d = domain of `pid`, f = type of `oid`. If `V(d,f,CLASS_FILE)` lacks `P_EXECUTE`: AUDIT(d, f, "
        + "`CLASS_FILE`, `P_EXECUTE`), answer `ERR_DENIED`.", ExecTest::execute);
    due.sentence(13, "n = `TRANSITION(d,f,CLASS_PROCESS)`", ExecTest::transition);
    due.sentence(13, "if `NONE`, then n = d.", ExecTest::noTransition);
    due.sentence(13, "If n != d", ExecTest::transitionToItself);
    due.sentence(13, "if `V(d,n,CLASS_PROCESS)` lacks `P_TRANSITION`: AUDIT(d, n, `CLASS_PROCESS`, `P_TRANSITION`), "
        + "answer `ERR_DENIED`", ExecTest::mayTransition);
    due.sentence(13, "then, if `V(n,f,CLASS_FILE)` lacks `P_ENTRYPOINT`: AUDIT(n, f, `CLASS_FILE`, `P_ENTRYPOINT`), "
        + "answer `ERR_DENIED`.", ExecTest::entrypoint);
    due.sentence(13, "The domain of `pid` becomes n; answer n.", ExecTest::becomes);
    due.sentence(13, "On `ERR_DENIED` only the audit ring changes (exactly one AUDIT).", ExecTest::deniedOnce);
    due.sentence(13, "On `ERR_ARG` nothing changes.", () -> due.refuses(Op.EXEC));
    due.sentence(13, "On success only the domain of `pid` may change (it stays d when n == d); no audit record is "
        + "written, and objects, other processes and policies are untouched.", ExecTest::successChangesTheDomain);
    due.end();
  }

  /** Process 0 in domain D, process 1 in domain 2; object 0 a file of type F. */
  private static TypeEnforcer world() {
    TypeEnforcer x = new TypeEnforcer(6, 4);
    x.spawn(D);
    x.spawn(2);
    x.makeObject(F, CLASS_FILE);
    return x;
  }

  /** A world with the transition and these permissions for its three steps; 0 stages no rule. */
  private static TypeEnforcer steps(int onFile, int onDomain, int onEntry) {
    TypeEnforcer x = world();
    x.stageTransition(D, F, CLASS_PROCESS, N);
    allow(x, D, F, CLASS_FILE, onFile);
    allow(x, D, N, CLASS_PROCESS, onDomain);
    allow(x, N, F, CLASS_FILE, onEntry);
    x.commit();
    return x;
  }

  private static void allow(TypeEnforcer x, int s, int t, int cls, int perms) {
    if (perms != 0) {
      x.stageAllow(s, t, cls, perms);
    }
  }

  private static void everyPidAndOid() {
    for (int pid = 0; pid < MAX_PROCS; pid++) {
      for (int oid = 0; oid < MAX_OBJECTS; oid++) {
        TypeEnforcer x = new TypeEnforcer(12, 4);
        for (int p = 0; p < MAX_PROCS; p++) {
          x.spawn(p == pid ? D : 0);
        }
        for (int o = 0; o < MAX_OBJECTS; o++) {
          x.makeObject(o == oid ? F : 0, CLASS_FILE);
        }
        x.stageAllow(D, F, CLASS_FILE, P_EXECUTE);
        x.commit();
        due.is("pid " + pid + " oid " + oid, x.exec(pid, oid), D);
      }
    }
  }

  private static void onlyActive() {
    TypeEnforcer x = world();
    x.stageAllow(D, F, CLASS_FILE, P_EXECUTE);
    due.is("staged alone", x.exec(0, 0), ERR_DENIED);
    x.commit();
    x.stageTransition(D, F, CLASS_PROCESS, N);
    due.is("transition staged alone", x.exec(0, 0), D);
    x.commit();
    x.stageAllow(D, N, CLASS_PROCESS, P_TRANSITION);
    due.is("permission to transition staged alone", x.exec(0, 0), ERR_DENIED);
    x.commit();
    x.stageAllow(N, F, CLASS_FILE, P_ENTRYPOINT);
    due.is("entrypoint staged alone", x.exec(0, 0), ERR_DENIED);
    x.commit();
    x.stageClear();
    due.is("all active, nothing staged", x.exec(0, 0), N);
    due.ring("three denials", x, 3, new int[] {D, F, CLASS_FILE, P_EXECUTE, 1},
        new int[] {D, N, CLASS_PROCESS, P_TRANSITION, 1}, new int[] {N, F, CLASS_FILE, P_ENTRYPOINT, 1});
  }

  /** With each step's permission given or not, the first that is lacking answers. */
  private static void order() {
    for (int given = 0; given < 8; given++) {
      int onFile = (given & 1) != 0 ? 255 : 255 & ~P_EXECUTE;
      int onDomain = (given & 2) != 0 ? 255 : 255 & ~P_TRANSITION;
      int onEntry = (given & 4) != 0 ? 255 : 255 & ~P_ENTRYPOINT;
      String what = "steps given: " + given;
      TypeEnforcer x = steps(onFile, onDomain, onEntry);
      due.changes(what + ", wrong pid", x, y -> y.exec(2, 0), ERR_ARG);
      due.changes(what + ", wrong oid", x, y -> y.exec(0, 1), ERR_ARG);
      if ((given & 1) == 0) {
        denied(what, x, D, F, CLASS_FILE, P_EXECUTE);
      } else if ((given & 2) == 0) {
        denied(what, x, D, N, CLASS_PROCESS, P_TRANSITION);
      } else if ((given & 4) == 0) {
        denied(what, x, N, F, CLASS_FILE, P_ENTRYPOINT);
      } else {
        granted(what, x, N);
      }
    }
  }

  private static void pids() {
    TypeEnforcer x = world();
    x.stageMember(D, 0);
    x.stageMember(2, 0);
    x.stageAllow(64, F, CLASS_FILE, P_EXECUTE);
    x.commit();
    for (int v : Edges.VALUES) {
      due.is("pid " + v, x.exec(v, 0), v == 0 ? D : v == 1 ? 2 : ERR_ARG);
    }
    TypeEnforcer none = new TypeEnforcer(4, 4);
    none.makeObject(0, CLASS_FILE);
    due.takes("pid without processes", v -> false, 0, v -> none.exec(v, 0));
  }

  private static void oids() {
    TypeEnforcer x = steps(P_EXECUTE, 0, 0);
    x.stageClear();
    x.stageAllow(D, F, CLASS_FILE, P_EXECUTE);
    x.commit();
    x.makeObject(F, CLASS_FILE);
    due.takes("oid", v -> v == 0 || v == 1, D, v -> x.exec(0, v));
    TypeEnforcer none = new TypeEnforcer(4, 4);
    none.spawn(0);
    due.takes("oid without objects", v -> false, 0, v -> none.exec(0, v));
  }

  private static void classes() {
    for (int cls = 0; cls < 4; cls++) {
      TypeEnforcer x = new TypeEnforcer(6, 4);
      x.spawn(D);
      x.makeObject(F, cls);
      for (int c = 0; c < 4; c++) {
        x.stageAllow(D, F, c, 255);
      }
      x.commit();
      due.changes("object of class " + cls, x, y -> y.exec(0, 0), cls == CLASS_FILE ? D : ERR_ARG);
    }
  }

  private static void denied(String what, TypeEnforcer x, int s, int t, int cls, int perm) {
    due.is(what, x.exec(0, 0), ERR_DENIED);
    due.ring(what, x, 1, new int[] {s, t, cls, perm, 1});
  }

  private static void granted(String what, TypeEnforcer x, int domain) {
    due.is(what, x.exec(0, 0), domain);
    due.ring(what, x, 0);
  }

  private static void execute() {
    denied("no rule", steps(0, 255, 255), D, F, CLASS_FILE, P_EXECUTE);
    denied("all but execute", steps(255 & ~P_EXECUTE, 255, 255), D, F, CLASS_FILE, P_EXECUTE);
    denied("nothing at all", steps(0, 0, 0), D, F, CLASS_FILE, P_EXECUTE);
    granted("execute alone", steps(P_EXECUTE, 255, 255), N);
    granted("all", steps(255, 255, 255), N);
    TypeEnforcer x = world();
    x.stageAllow(D, F, CLASS_DIR, 255);
    x.stageAllow(D, F, CLASS_PROCESS, 255);
    x.stageAllow(F, D, CLASS_FILE, 255);
    x.commit();
    denied("execute in other classes and the other way round", x, D, F, CLASS_FILE, P_EXECUTE);
  }

  private static void transition() {
    for (int to = 0; to < 6; to++) {
      TypeEnforcer x = world();
      x.stageAllow(D, F, CLASS_FILE, P_EXECUTE);
      for (int cls : new int[] {CLASS_FILE, CLASS_DIR, CLASS_SOCKET}) {
        x.stageTransition(D, F, cls, 5 - to);
      }
      x.stageTransition(2, F, CLASS_PROCESS, 5 - to);
      x.stageTransition(D, 2, CLASS_PROCESS, 5 - to);
      x.stageTransition(D, F, CLASS_PROCESS, to);
      x.stageTransition(D, F, CLASS_PROCESS, 5 - to);
      allow(x, D, to, CLASS_PROCESS, P_TRANSITION);
      allow(x, to, F, CLASS_FILE, P_ENTRYPOINT);
      x.commit();
      granted("transition to " + to, x, to);
    }
  }

  private static void noTransition() {
    TypeEnforcer x = world();
    x.stageAllow(D, F, CLASS_FILE, P_EXECUTE);
    x.stageTransition(D, F, CLASS_FILE, N);
    x.stageTransition(2, F, CLASS_PROCESS, N);
    x.commit();
    granted("no transition rule for it", x, D);
    due.is("domain", x.label(L_PROC_DOMAIN, 0), D);
  }

  private static void transitionToItself() {
    TypeEnforcer x = world();
    x.stageAllow(D, F, CLASS_FILE, P_EXECUTE);
    x.stageTransition(D, F, CLASS_PROCESS, D);
    x.stageTransition(D, F, CLASS_PROCESS, N);
    x.commit();
    granted("to the own domain no more is needed", x, D);
    for (int from = 0; from < 6; from++) {
      for (int to = 0; to < 6; to++) {
        String what = "from " + from + " to " + to;
        if (from == to) {
          granted(what + ", execute alone", fromTo(from, to, 0), from);
        } else {
          denied(what + ", execute alone", fromTo(from, to, 0), from, to, CLASS_PROCESS, P_TRANSITION);
          denied(what + ", no entrypoint", fromTo(from, to, 255), to, F, CLASS_FILE, P_ENTRYPOINT);
        }
      }
    }
  }

  /** A process that may execute, with a transition and this permission for it. */
  private static TypeEnforcer fromTo(int from, int to, int onDomain) {
    TypeEnforcer x = new TypeEnforcer(6, 4);
    x.spawn(from);
    x.makeObject(F, CLASS_FILE);
    x.stageTransition(from, F, CLASS_PROCESS, to);
    x.stageAllow(from, F, CLASS_FILE, P_EXECUTE);
    allow(x, from, to, CLASS_PROCESS, onDomain);
    x.commit();
    return x;
  }

  private static void mayTransition() {
    denied("no rule", steps(P_EXECUTE, 0, 255), D, N, CLASS_PROCESS, P_TRANSITION);
    denied("all but transition", steps(P_EXECUTE, 255 & ~P_TRANSITION, 255), D, N, CLASS_PROCESS, P_TRANSITION);
    denied("before the entrypoint", steps(P_EXECUTE, 0, 0), D, N, CLASS_PROCESS, P_TRANSITION);
    granted("transition alone", steps(P_EXECUTE, P_TRANSITION, 255), N);
    TypeEnforcer x = steps(255, 0, 255);
    x.stageAllow(N, D, CLASS_PROCESS, 255);
    x.stageAllow(D, N, CLASS_FILE, 255);
    x.stageAllow(D, F, CLASS_PROCESS, 255);
    x.commit();
    denied("transition elsewhere", x, D, N, CLASS_PROCESS, P_TRANSITION);
  }

  private static void entrypoint() {
    denied("no rule", steps(255, P_TRANSITION, 0), N, F, CLASS_FILE, P_ENTRYPOINT);
    denied("all but entrypoint", steps(255, P_TRANSITION, 255 & ~P_ENTRYPOINT), N, F, CLASS_FILE, P_ENTRYPOINT);
    granted("entrypoint alone", steps(P_EXECUTE, P_TRANSITION, P_ENTRYPOINT), N);
    TypeEnforcer x = steps(255, 255, 0);
    x.stageAllow(F, N, CLASS_FILE, 255);
    x.stageAllow(N, F, CLASS_PROCESS, 255);
    x.stageAllow(N, D, CLASS_FILE, 255);
    x.commit();
    denied("entrypoint elsewhere", x, N, F, CLASS_FILE, P_ENTRYPOINT);
  }

  /** From domain to domain, type 0 among them; the next exec starts from the new one. */
  private static void becomes() {
    TypeEnforcer x = world();
    for (int type : new int[] {D, 0, 5}) {
      x.stageMember(type, 0);
    }
    x.stageAllow(64, F, CLASS_FILE, P_EXECUTE | P_ENTRYPOINT);
    x.stageAllow(64, 64, CLASS_PROCESS, P_TRANSITION);
    x.stageTransition(D, F, CLASS_PROCESS, 0);
    x.stageTransition(0, F, CLASS_PROCESS, 5);
    x.commit();
    for (int domain : new int[] {0, 5, 5}) {
      due.is("exec", x.exec(0, 0), domain);
      due.is("domain", x.label(L_PROC_DOMAIN, 0), domain);
    }
    due.ring("no denial", x, 0);
  }

  private static void deniedOnce() {
    due.changes("denied execute", World.BUSY, x -> x.exec(1, 0), ERR_DENIED, Snapshot.AUDIT);
    due.changes("denied transition", World.BUSY, x -> x.exec(0, 0), ERR_DENIED, Snapshot.AUDIT);
    due.changes("denied entrypoint", World.BUSY, x -> x.exec(2, 0), ERR_DENIED, Snapshot.AUDIT);
    TypeEnforcer[] all = {steps(0, 0, 0), steps(255, 0, 0), steps(255, 255, 0)};
    for (TypeEnforcer x : all) {
      for (int times = 1; times <= 3; times++) {
        due.changes("denied exec", x, y -> y.exec(0, 0), ERR_DENIED, Snapshot.AUDIT);
        due.is("total", x.audit(0, AU_TOTAL), times);
        due.is("held", x.audit(0, AU_HELD), 1);
        due.is("count", x.audit(0, AU_COUNT), times);
        due.is("domain", x.label(L_PROC_DOMAIN, 0), D);
      }
    }
  }

  private static void successChangesTheDomain() {
    due.changes("exec to another domain", World.BUSY, x -> x.exec(3, 0), 4, Snapshot.PROCESSES);
    due.leaves("exec that stays", World.BUSY, x -> x.exec(4, 0), 4);
    TypeEnforcer x = steps(255, 255, 255);
    due.is("a denial before", x.check(1, 0, 1), 1);
    due.changes("exec to another domain", x, y -> y.exec(0, 0), N, Snapshot.PROCESSES);
    due.is("the process", x.label(L_PROC_DOMAIN, 0), N);
    due.is("the other process", x.label(L_PROC_DOMAIN, 1), 2);
    TypeEnforcer stays = world();
    stays.stageAllow(D, F, CLASS_FILE, P_EXECUTE);
    stays.commit();
    due.changes("exec that stays", stays, y -> y.exec(0, 0), D);
    TypeEnforcer itself = world();
    itself.stageAllow(D, F, CLASS_FILE, P_EXECUTE);
    itself.stageTransition(D, F, CLASS_PROCESS, D);
    itself.commit();
    due.changes("exec to the own domain", itself, y -> y.exec(0, 0), D);
  }
}
