/** Promise 12: makeObject. */
final class ObjectTest implements Face {
  private static final Due due = new Due("ObjectTest");

  public static void main(String[] args) {
    due.sentence(12, "`makeObject(type, cls)` creates an object labelled (`type`, `cls`), with no policy check.",
        ObjectTest::creates);
    due.sentence(12, "Tests: `type` in `0..T-1`", ObjectTest::types);
    due.sentence(12, "`cls` in `0..3`, else `ERR_ARG`;", ObjectTest::classes);
    due.sentence(12, "then, if `MAX_OBJECTS` objects exist, `ERR_FULL`.", ObjectTest::full);
    due.sentence(12, "Otherwise the answer is the new oid, equal to the number of objects before.", ObjectTest::oid);
    due.sentence(12, "Objects are never removed.", ObjectTest::neverRemoved);
    due.sentence(12, "Policies, processes, seq and the audit ring are not changed.", ObjectTest::nothingElse);
    due.end();
  }

  private static void labelled(TypeEnforcer x, int oid, int type, int cls) {
    due.is("type of " + oid, x.label(L_OBJ_TYPE, oid), type);
    due.is("class of " + oid, x.label(L_OBJ_CLASS, oid), cls);
  }

  /** Under no policy, and under one that forbids everything. */
  private static void creates() {
    for (boolean forbidden : new boolean[] {false, true}) {
      TypeEnforcer x = new TypeEnforcer(4, 4);
      if (forbidden) {
        for (int cls = 0; cls < 4; cls++) {
          x.stageNeverallow(64, 64, cls, 255);
          x.stageMember(cls, 0);
        }
        x.commit();
      }
      for (int type = 0; type < 4; type++) {
        for (int cls = 0; cls < 4; cls++) {
          due.is("oid", x.makeObject(type, cls), type * 4 + cls);
          labelled(x, type * 4 + cls, type, cls);
        }
      }
      due.is("total", x.audit(0, AU_TOTAL), 0);
    }
  }

  private static void types() {
    for (int types = Edges.MIN_TYPES; types <= Edges.MAX_TYPES; types++) {
      int t = types;
      due.takes("type of " + t, v -> Edges.isType(v, t), 0, v -> new TypeEnforcer(t, 4).makeObject(v, 3));
    }
  }

  private static void classes() {
    due.takes("cls", v -> Edges.within(v, 0, 3), 0, v -> new TypeEnforcer(12, 4).makeObject(11, v));
    due.refuses(Op.MAKE_OBJECT);
  }

  private static void full() {
    TypeEnforcer x = new TypeEnforcer(4, 4);
    for (int oid = 0; oid < 15; oid++) {
      x.makeObject(0, 0);
    }
    due.is("the last place", x.makeObject(1, 1), 15);
    due.is("past the last place", x.makeObject(1, 1), ERR_FULL);
    due.is("a wrong type past the last place", x.makeObject(4, 0), ERR_ARG);
    due.is("a wrong class past the last place", x.makeObject(0, 4), ERR_ARG);
    x.stageClear();
    x.commit();
    due.is("still past the last place", x.makeObject(3, 3), ERR_FULL);
    due.is("objects", x.policyInfo(PI_OBJECTS), 16);
    due.is("processes have places of their own", x.spawn(0), 0);
    due.leaves("makeObject", World.FULL, y -> y.makeObject(0, 0), ERR_FULL);
    due.leaves("makeObject of the last type", World.FULL, y -> y.makeObject(11, 3), ERR_FULL);
  }

  private static void oid() {
    TypeEnforcer x = new TypeEnforcer(4, 4);
    for (int oid = 0; oid < MAX_OBJECTS; oid++) {
      due.is("objects before", x.policyInfo(PI_OBJECTS), oid);
      x.makeObject(-1, 0);
      x.makeObject(0, -1);
      x.spawn(0);
      due.is("oid", x.makeObject(oid % 4, oid / 4), oid);
      due.is("objects after", x.policyInfo(PI_OBJECTS), oid + 1);
    }
  }

  private static void neverRemoved() {
    TypeEnforcer x = new TypeEnforcer(12, 4);
    for (int n = 0; n <= MAX_OBJECTS; n++) {
      for (int oid = -2; oid < 20; oid++) {
        boolean used = oid >= 0 && oid < n;
        labelled(x, oid, used ? (oid * 5 + 1) % 12 : ERR_ARG, used ? (oid + 1) % 4 : ERR_ARG);
      }
      x.makeObject((n * 5 + 1) % 12, (n + 1) % 4);
      x.stageClear();
      x.commit();
    }
  }

  private static void nothingElse() {
    due.changes("makeObject", World.BUSY, x -> x.makeObject(5, 1), 4, Snapshot.OBJECTS);
    due.changes("makeObject", World.NEW, x -> x.makeObject(3, 3), 0, Snapshot.OBJECTS);
  }
}
