/** Promise 14: create. */
final class CreateTest implements Face {
  private static final Due due = new Due("CreateTest");
  /** The domain, the directory's type and the type that a transition gives. */
  private static final int D = 1, P = 3, N = 5;
  private static final int[] CLASSES = {CLASS_FILE, CLASS_DIR, CLASS_SOCKET};

  public static void main(String[] args) {
    due.sentence(14, "`create(pid, dirOid, cls)`: process `pid` creates an object of class `cls` in directory object "
        + "`dirOid`, using the ACTIVE policy.", CreateTest::onlyActive);
    due.sentence(14, "In order:", CreateTest::order);
    due.sentence(14, "`pid` not a process;", CreateTest::pids);
    due.sentence(14, "`dirOid` not an object or its class not `CLASS_DIR`;", CreateTest::directories);
    due.sentence(14, "`cls` not in {`CLASS_FILE`, `CLASS_DIR`, `CLASS_SOCKET`}: `ERR_ARG` (tested in that order).",
        CreateTest::classes);
    due.sentence(14, "`MAX_OBJECTS` objects exist: `ERR_FULL`.", CreateTest::full);
    due.sentence(14, "d = domain of `pid`, p = type of `dirOid`. If `V(d,p,CLASS_DIR)` lacks `P_ADD_NAME`: AUDIT(d, p, "
        + "`CLASS_DIR`, `P_ADD_NAME`), answer `ERR_DENIED`.", CreateTest::addName);
    due.sentence(14, "n = `TRANSITION(d,p,cls)`", CreateTest::transition);
    due.sentence(14, "if `NONE`, then n = p.", CreateTest::noTransition);
    due.sentence(14, "If `V(d,n,cls)` lacks `P_CREATE`: AUDIT(d, n, cls, `P_CREATE`), answer `ERR_DENIED`.",
        CreateTest::mayCreate);
    due.sentence(14, "A new object labelled (n, cls) is made; the answer is its oid (the number of objects before).",
        CreateTest::made);
    due.sentence(14, "On `ERR_ARG` or `ERR_FULL` nothing changes.", CreateTest::refusedChangesNothing);
    due.sentence(14, "On `ERR_DENIED` only the audit ring changes.", CreateTest::deniedChangesTheRing);
    due.sentence(14, "On success only the object set grows by one; labels of existing processes and objects, policies "
        + "and the audit ring are untouched.", CreateTest::successGrowsObjects);
    due.end();
  }

  /** Process 0 in domain D; object 0 a directory of type P. */
  private static TypeEnforcer world() {
    TypeEnforcer x = new TypeEnforcer(6, 4);
    x.spawn(D);
    x.makeObject(P, CLASS_DIR);
    return x;
  }

  /** A world with a transition in every class and these permissions; 0 stages no rule. */
  private static TypeEnforcer steps(int onDirectory, int cls, int onObject) {
    TypeEnforcer x = world();
    for (int c = 0; c < 4; c++) {
      x.stageTransition(D, P, c, N);
    }
    if (onDirectory != 0) {
      x.stageAllow(D, P, CLASS_DIR, onDirectory);
    }
    if (onObject != 0) {
      x.stageAllow(D, N, cls, onObject);
    }
    x.commit();
    return x;
  }

  /** All is allowed to domain D on type P, and there is no transition. */
  private static TypeEnforcer open() {
    TypeEnforcer x = world();
    for (int cls = 0; cls < 4; cls++) {
      x.stageAllow(D, P, cls, 255);
    }
    x.commit();
    return x;
  }

  private static void onlyActive() {
    TypeEnforcer x = world();
    x.stageAllow(D, P, CLASS_DIR, P_ADD_NAME | P_CREATE);
    due.is("staged alone", x.create(0, 0, CLASS_DIR), ERR_DENIED);
    x.commit();
    x.stageTransition(D, P, CLASS_DIR, N);
    due.is("transition staged alone", x.create(0, 0, CLASS_DIR), 1);
    due.is("type", x.label(L_OBJ_TYPE, 1), P);
    x.commit();
    x.stageAllow(D, N, CLASS_DIR, P_CREATE);
    due.is("permission staged alone", x.create(0, 0, CLASS_DIR), ERR_DENIED);
    x.commit();
    x.stageClear();
    due.is("all active, nothing staged", x.create(0, 0, CLASS_DIR), 2);
    due.is("type", x.label(L_OBJ_TYPE, 2), N);
  }

  /** With each step's permission given or not, the first that is lacking answers; the limit comes before. */
  private static void order() {
    for (int cls : CLASSES) {
      for (int given = 0; given < 4; given++) {
        int onDirectory = (given & 1) != 0 ? 255 : 255 & ~P_ADD_NAME;
        int onObject = (given & 2) != 0 ? 255 : 255 & ~P_CREATE;
        String what = "class " + cls + ", steps given: " + given;
        TypeEnforcer x = steps(onDirectory, cls, onObject);
        if ((given & 1) == 0) {
          denied(what, x, cls, D, P, CLASS_DIR, P_ADD_NAME);
        } else if ((given & 2) == 0) {
          denied(what, x, cls, D, N, cls, P_CREATE);
        } else {
          granted(what, x, cls, N);
        }
        for (int i = 0; i < MAX_OBJECTS; i++) {
          x.makeObject(0, CLASS_FILE);
          due.changes(what + ", wrong class", x, y -> y.create(0, 0, CLASS_PROCESS), ERR_ARG);
        }
        due.changes(what + ", wrong class past the limit", x, y -> y.create(0, 0, CLASS_PROCESS), ERR_ARG);
        due.changes(what + ", past the limit", x, y -> y.create(0, 0, cls), ERR_FULL);
      }
    }
  }

  /** Each call may make an object, so each has an object of its own. */
  private static void pids() {
    due.takes("pid", v -> v == 0 || v == 1, 1, v -> {
      TypeEnforcer x = open();
      x.spawn(D);
      return x.create(v, 0, CLASS_FILE);
    });
    TypeEnforcer none = new TypeEnforcer(4, 4);
    none.makeObject(0, CLASS_DIR);
    due.takes("pid without processes", v -> false, 0, v -> none.create(v, 0, CLASS_FILE));
    TypeEnforcer all = new TypeEnforcer(4, 4);
    for (int pid = 0; pid < MAX_PROCS; pid++) {
      all.spawn(0);
    }
    all.makeObject(0, CLASS_DIR);
    due.takes("pid of eight", v -> v >= 0 && v < 8, ERR_DENIED, v -> all.create(v, 0, CLASS_FILE));
  }

  private static void directories() {
    due.takes("dirOid", v -> v == 0 || v == 4, 5, v -> {
      TypeEnforcer x = open();
      x.makeObject(P, CLASS_FILE);
      x.makeObject(P, CLASS_PROCESS);
      x.makeObject(P, CLASS_SOCKET);
      x.makeObject(P, CLASS_DIR);
      return x.create(0, v, CLASS_FILE);
    });
    TypeEnforcer none = new TypeEnforcer(4, 4);
    none.spawn(0);
    due.takes("dirOid without objects", v -> false, 0, v -> none.create(0, v, CLASS_FILE));
  }

  private static void classes() {
    due.takes("cls", v -> v == 0 || v == 1 || v == 3, 1, v -> open().create(0, 0, v));
    due.takes("cls where nothing is allowed", v -> v == 0 || v == 1 || v == 3, ERR_DENIED,
        v -> world().create(0, 0, v));
    due.takes("cls where no place is left", v -> v == 0 || v == 1 || v == 3, ERR_FULL,
        v -> World.FULL.make().create(0, 1, v));
  }

  /** The limit comes after the arguments and before the policy. */
  private static void full() {
    TypeEnforcer x = open();
    for (int oid = 1; oid < 15; oid++) {
      due.is("create", x.create(0, 0, CLASS_FILE), oid);
    }
    due.is("the last place", x.create(0, 0, CLASS_DIR), 15);
    due.is("past the last place", x.create(0, 0, CLASS_FILE), ERR_FULL);
    due.is("past the last place, in the last directory", x.create(0, 15, CLASS_FILE), ERR_FULL);
    due.is("makeObject has the same places", x.makeObject(0, 0), ERR_FULL);
    due.is("a wrong pid past the last place", x.create(1, 0, CLASS_FILE), ERR_ARG);
    due.is("a file past the last place", x.create(0, 1, CLASS_FILE), ERR_ARG);
    due.is("a wrong class past the last place", x.create(0, 0, CLASS_PROCESS), ERR_ARG);
    due.ring("no denial", x, 0);
    TypeEnforcer denied = world();
    for (int oid = 1; oid < 15; oid++) {
      denied.makeObject(P, CLASS_DIR);
    }
    due.is("denied with one place left", denied.create(0, 0, CLASS_FILE), ERR_DENIED);
    denied.makeObject(P, CLASS_DIR);
    due.changes("not denied with none left", denied, y -> y.create(0, 0, CLASS_FILE), ERR_FULL);
  }

  private static void denied(String what, TypeEnforcer x, int cls, int... entry) {
    due.is(what, x.create(0, 0, cls), ERR_DENIED);
    due.ring(what, x, 1, new int[] {entry[0], entry[1], entry[2], entry[3], 1});
  }

  private static void granted(String what, TypeEnforcer x, int cls, int type) {
    due.is(what, x.create(0, 0, cls), 1);
    due.is(what + ": type", x.label(L_OBJ_TYPE, 1), type);
    due.is(what + ": class", x.label(L_OBJ_CLASS, 1), cls);
    due.ring(what, x, 0);
  }

  private static void addName() {
    for (int cls : CLASSES) {
      denied("no rule", steps(0, cls, 255), cls, D, P, CLASS_DIR, P_ADD_NAME);
      denied("all but add_name", steps(255 & ~P_ADD_NAME, cls, 255), cls, D, P, CLASS_DIR, P_ADD_NAME);
      granted("add_name alone", steps(P_ADD_NAME, cls, 255), cls, N);
      TypeEnforcer x = steps(0, cls, 255);
      x.stageAllow(P, D, CLASS_DIR, 255);
      x.stageAllow(D, N, CLASS_DIR, 255);
      x.stageAllow(D, P, CLASS_FILE, 255);
      x.stageAllow(D, P, CLASS_SOCKET, 255);
      x.commit();
      denied("add_name elsewhere", x, cls, D, P, CLASS_DIR, P_ADD_NAME);
    }
  }

  private static void transition() {
    for (int cls : CLASSES) {
      for (int to = 0; to < 6; to++) {
        TypeEnforcer x = world();
        for (int other = 0; other < 4; other++) {
          x.stageTransition(D, P, other, other == cls ? to : 5 - to);
        }
        x.stageTransition(D, P, cls, 5 - to);
        x.stageAllow(D, P, CLASS_DIR, P_ADD_NAME);
        x.stageAllow(D, to, cls, P_CREATE);
        x.commit();
        granted("class " + cls + " to type " + to, x, cls, to);
      }
    }
  }

  private static void noTransition() {
    for (int cls : CLASSES) {
      TypeEnforcer x = world();
      for (int other = 0; other < 4; other++) {
        if (other != cls) {
          x.stageTransition(D, P, other, N);
        }
      }
      x.stageTransition(P, D, cls, N);
      x.stageTransition(2, P, cls, N);
      x.stageAllow(D, P, CLASS_DIR, P_ADD_NAME);
      x.stageAllow(D, P, cls, P_CREATE);
      x.commit();
      granted("class " + cls + " takes the directory's type", x, cls, P);
    }
  }

  private static void mayCreate() {
    for (int cls : CLASSES) {
      denied("no rule", steps(255, cls, 0), cls, D, N, cls, P_CREATE);
      denied("all but create", steps(255, cls, 255 & ~P_CREATE), cls, D, N, cls, P_CREATE);
      granted("create alone", steps(P_ADD_NAME, cls, P_CREATE), cls, N);
      TypeEnforcer x = steps(255, (cls + 1) % 4, 255);
      x.stageAllow(N, D, cls, 255);
      x.stageAllow(D, P, cls, 255);
      x.commit();
      denied("create elsewhere", x, cls, D, N, cls, P_CREATE);
      TypeEnforcer inherits = world();
      inherits.stageAllow(D, P, CLASS_DIR, 255 & ~P_CREATE);
      inherits.commit();
      denied("no rule on the directory's type", inherits, cls, D, P, cls, P_CREATE);
    }
  }

  private static void made() {
    TypeEnforcer x = open();
    for (int oid = 1; oid < MAX_OBJECTS; oid++) {
      int cls = CLASSES[oid % 3];
      due.is("objects before", x.policyInfo(PI_OBJECTS), oid);
      due.is("oid", x.create(0, 0, cls), oid);
      due.is("objects after", x.policyInfo(PI_OBJECTS), oid + 1);
      due.is("type", x.label(L_OBJ_TYPE, oid), P);
      due.is("class", x.label(L_OBJ_CLASS, oid), cls);
    }
    TypeEnforcer nested = open();
    due.is("directory", nested.create(0, 0, CLASS_DIR), 1);
    due.is("file in the new directory", nested.create(0, 1, CLASS_FILE), 2);
    due.is("the new file can be executed", nested.exec(0, 2), D);
  }

  private static void refusedChangesNothing() {
    due.refuses(Op.CREATE);
    for (int cls : CLASSES) {
      for (int directory = 1; directory < MAX_OBJECTS; directory += 4) {
        int oid = directory;
        due.leaves("create", World.FULL, x -> x.create(7, oid, cls), ERR_FULL);
      }
    }
  }

  private static void deniedChangesTheRing() {
    due.changes("denied add_name", World.BUSY, x -> x.create(0, 1, CLASS_FILE), ERR_DENIED, Snapshot.AUDIT);
    due.changes("denied create", World.BUSY, x -> x.create(1, 1, CLASS_FILE), ERR_DENIED, Snapshot.AUDIT);
    for (int cls : CLASSES) {
      for (TypeEnforcer x : new TypeEnforcer[] {steps(0, cls, 0), steps(255, cls, 0)}) {
        for (int times = 1; times <= 3; times++) {
          due.changes("denied create", x, y -> y.create(0, 0, cls), ERR_DENIED, Snapshot.AUDIT);
          due.is("total", x.audit(0, AU_TOTAL), times);
          due.is("held", x.audit(0, AU_HELD), 1);
        }
      }
    }
  }

  private static void successGrowsObjects() {
    due.changes("create", World.BUSY, x -> x.create(1, 1, CLASS_DIR), 4, Snapshot.OBJECTS);
    for (int cls : CLASSES) {
      TypeEnforcer x = steps(P_ADD_NAME, cls, P_CREATE);
      x.spawn(2);
      x.makeObject(2, CLASS_SOCKET);
      due.is("a denial before", x.check(1, 1, 1), 1);
      due.changes("create", x, y -> y.create(0, 0, cls), 2, Snapshot.OBJECTS);
      due.is("objects", x.policyInfo(PI_OBJECTS), 3);
      due.is("type of the directory", x.label(L_OBJ_TYPE, 0), P);
      due.is("class of the directory", x.label(L_OBJ_CLASS, 0), CLASS_DIR);
      due.is("type of the socket", x.label(L_OBJ_TYPE, 1), 2);
      due.is("class of the socket", x.label(L_OBJ_CLASS, 1), CLASS_SOCKET);
    }
  }
}
