/** Promise 16: label. */
final class LabelTest implements Face {
  private static final Due due = new Due("LabelTest");

  public static void main(String[] args) {
    due.sentence(16, "`label(kind, id)` changes nothing.", LabelTest::changesNothing);
    due.sentence(16, "`L_PROC_DOMAIN` answers the current domain of process `id`.", LabelTest::domain);
    due.sentence(16, "`L_OBJ_TYPE` and `L_OBJ_CLASS` answer the type and the class of object `id`.",
        LabelTest::typeAndClass);
    due.sentence(16, "An unknown kind", LabelTest::unknownKind);
    due.sentence(16, "or an `id` not in use (negative, or not below the number of processes or objects respectively), "
        + "answers `ERR_ARG`.", LabelTest::idNotInUse);
    due.end();
  }

  private static void changesNothing() {
    for (World world : World.values()) {
      due.leaves("every label", world, x -> {
        for (int kind = -2; kind < 6; kind++) {
          for (int id = -2; id < 20; id++) {
            x.label(kind, id);
          }
        }
        return 0;
      }, 0);
    }
    for (int kind = 0; kind <= 2; kind++) {
      due.reads(Op.LABEL, kind, 0);
    }
    due.refuses(Op.LABEL);
  }

  private static void domain() {
    TypeEnforcer x = new TypeEnforcer(12, 4);
    for (int pid = 0; pid < MAX_PROCS; pid++) {
      x.spawn(11 - pid);
    }
    for (int pid = 0; pid < MAX_PROCS; pid++) {
      due.is("domain of " + pid, x.label(L_PROC_DOMAIN, pid), 11 - pid);
    }
    x.makeObject(2, CLASS_FILE);
    x.stageTransition(7, 2, CLASS_PROCESS, 0);
    x.stageAllow(7, 2, CLASS_FILE, P_EXECUTE);
    x.stageAllow(7, 0, CLASS_PROCESS, P_TRANSITION);
    x.stageAllow(0, 2, CLASS_FILE, P_ENTRYPOINT);
    x.commit();
    due.is("exec", x.exec(4, 0), 0);
    for (int pid = 0; pid < MAX_PROCS; pid++) {
      due.is("domain of " + pid + " after exec", x.label(L_PROC_DOMAIN, pid), pid == 4 ? 0 : 11 - pid);
    }
  }

  private static void typeAndClass() {
    TypeEnforcer x = new TypeEnforcer(12, 4);
    for (int oid = 0; oid < MAX_OBJECTS; oid++) {
      x.makeObject((oid * 7 + 3) % 12, (oid + 2) % 4);
    }
    for (int oid = 0; oid < MAX_OBJECTS; oid++) {
      due.is("type of " + oid, x.label(L_OBJ_TYPE, oid), (oid * 7 + 3) % 12);
      due.is("class of " + oid, x.label(L_OBJ_CLASS, oid), (oid + 2) % 4);
    }
  }

  private static void unknownKind() {
    TypeEnforcer x = World.FULL.make();
    due.takes("kind of 8 and 16", v -> v >= 0 && v <= 2, 0, v -> x.label(v, 0));
    due.takes("kind of nothing", v -> false, 0, v -> World.NEW.make().label(v, 0));
  }

  /** The two numbers are counted apart: what is a pid need not be an oid, nor the other way round. */
  private static void idNotInUse() {
    for (int procs = 0; procs <= MAX_PROCS; procs++) {
      for (int objects = 0; objects <= MAX_OBJECTS; objects++) {
        TypeEnforcer x = new TypeEnforcer(4, 4);
        for (int pid = 0; pid < procs; pid++) {
          x.spawn(3);
        }
        for (int oid = 0; oid < objects; oid++) {
          x.makeObject(2, CLASS_DIR);
        }
        for (int id : new int[] {Edges.MIN, -17, -8, -1, 0, procs - 1, procs, objects - 1, objects, 7, 8, 15, 16, 17,
            Edges.MAX}) {
          String what = "id " + id + " of " + procs + " and " + objects;
          due.is("domain, " + what, x.label(L_PROC_DOMAIN, id), id >= 0 && id < procs ? 3 : ERR_ARG);
          due.is("type, " + what, x.label(L_OBJ_TYPE, id), id >= 0 && id < objects ? 2 : ERR_ARG);
          due.is("class, " + what, x.label(L_OBJ_CLASS, id), id >= 0 && id < objects ? CLASS_DIR : ERR_ARG);
        }
      }
    }
    TypeEnforcer x = World.FULL.make();
    due.takes("pid of 8", v -> v >= 0 && v < 8, 0, v -> Math.min(0, x.label(L_PROC_DOMAIN, v)));
    due.takes("oid of 16", v -> v >= 0 && v < 16, 0, v -> Math.min(0, x.label(L_OBJ_TYPE, v)));
    due.takes("oid of 16", v -> v >= 0 && v < 16, 0, v -> Math.min(0, x.label(L_OBJ_CLASS, v)));
  }
}
