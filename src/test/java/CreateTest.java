/** Promise 14: create. */
final class CreateTest {
  private static final int MIN = Integer.MIN_VALUE, MAX = Integer.MAX_VALUE;
  private static final Due due = new Due("CreateTest");

  public static void main(String[] args) {
    refused();
    full();
    stepByStep();
    inheritsType();
    everyClass();
    onlyActive();
    due.end();
  }

  /** Process 0 in domain 1; object 0 a directory of type 3. */
  private static TypeEnforcer world() {
    TypeEnforcer x = new TypeEnforcer(6, 4);
    x.spawn(1);
    x.makeObject(3, 1);
    return x;
  }

  private static void allowAll(TypeEnforcer x) {
    for (int cls = 0; cls < 4; cls++) {
      x.stageAllow(1, 3, cls, 255);
    }
    x.commit();
  }

  private static void refused() {
    TypeEnforcer x = world();
    x.makeObject(3, 0);
    x.makeObject(3, 2);
    x.makeObject(3, 3);
    allowAll(x);
    refuse(x);
    for (int oid = 4; oid < 16; oid++) {
      x.makeObject(0, 0);
    }
    refuse(x);
  }

  private static void refuse(TypeEnforcer x) {
    Snapshot before = Snapshot.of(x);
    for (int pid : new int[] {MIN, -1, 1, 8, MAX}) {
      due.is("pid " + pid, x.create(pid, 0, 0), -1);
    }
    for (int oid : new int[] {MIN, -1, 16, MAX}) {
      due.is("oid " + oid, x.create(0, oid, 0), -1);
    }
    for (int oid = 1; oid <= 3; oid++) {
      due.is("object that is no directory", x.create(0, oid, 0), -1);
    }
    for (int cls : new int[] {MIN, -1, 2, 4, MAX}) {
      due.is("cls " + cls, x.create(0, 0, cls), -1);
    }
    due.changed("refused create", before, Snapshot.of(x));
  }

  /** The limit comes before the policy: no denial is written. */
  private static void full() {
    TypeEnforcer x = world();
    for (int oid = 1; oid < 16; oid++) {
      x.makeObject(3, 1);
    }
    Snapshot before = Snapshot.of(x);
    due.is("create past the limit", x.create(0, 0, 0), -2);
    due.is("create past the limit in the last directory", x.create(0, 15, 0), -2);
    due.changed("create past the limit", before, Snapshot.of(x));
    TypeEnforcer y = world();
    allowAll(y);
    for (int oid = 1; oid < 16; oid++) {
      due.is("create " + oid, y.create(0, 0, 0), oid);
    }
    due.is("create past the limit", y.create(0, 0, 0), -2);
    due.is("makeObject past the limit", y.makeObject(0, 0), -2);
    due.is("total", y.audit(0, 6), 0);
  }

  private static void stepByStep() {
    TypeEnforcer x = world();
    x.stageTransition(1, 3, 3, 5);
    x.stageAllow(1, 3, 1, 255 & ~64);
    x.stageAllow(1, 3, 3, 255);
    x.commit();
    deniedOnce(x, 1, 3, 1, 64);
    x.stageAllow(1, 3, 1, 64);
    x.stageAllow(1, 5, 3, 255 & ~8);
    x.commit();
    deniedOnce(x, 1, 5, 3, 8);
    x.stageAllow(1, 5, 3, 8);
    x.commit();
    Snapshot before = Snapshot.of(x);
    due.is("create", x.create(0, 0, 3), 1);
    due.changed("create", before, Snapshot.of(x), Snapshot.OBJECTS);
    due.is("type", x.label(1, 1), 5);
    due.is("class", x.label(2, 1), 3);
    due.is("type of the directory", x.label(1, 0), 3);
    due.is("class of the directory", x.label(2, 0), 1);
  }

  private static void deniedOnce(TypeEnforcer x, int s, int t, int c, int p) {
    int total = x.audit(0, 6);
    Snapshot before = Snapshot.of(x);
    due.is("denied create", x.create(0, 0, 3), -4);
    due.changed("denied create", before, Snapshot.of(x), Snapshot.AUDIT);
    due.is("total", x.audit(0, 6), total + 1);
    int newest = x.audit(0, 5) - 1;
    due.is("src", x.audit(newest, 0), s);
    due.is("tgt", x.audit(newest, 1), t);
    due.is("class", x.audit(newest, 2), c);
    due.is("perms", x.audit(newest, 3), p);
  }

  private static void inheritsType() {
    TypeEnforcer x = world();
    x.stageTransition(1, 3, 2, 5);
    x.stageTransition(1, 3, 1, 4);
    x.stageAllow(1, 3, 1, 64);
    x.stageAllow(1, 3, 0, 8);
    x.commit();
    due.is("create without a transition", x.create(0, 0, 0), 1);
    due.is("type of the directory", x.label(1, 1), 3);
    due.is("class asked for", x.label(2, 1), 0);
  }

  private static void everyClass() {
    int[] classes = {0, 1, 3};
    TypeEnforcer x = world();
    x.stageTransition(1, 3, 0, 0);
    x.stageTransition(1, 3, 1, 4);
    x.stageTransition(1, 3, 3, 5);
    x.stageAllow(1, 3, 1, 64);
    x.stageAllow(1, 0, 0, 8);
    x.stageAllow(1, 4, 1, 8);
    x.stageAllow(1, 5, 3, 8);
    x.commit();
    int[] types = {0, 4, 5};
    for (int i = 0; i < 3; i++) {
      due.is("create class " + classes[i], x.create(0, 0, classes[i]), i + 1);
      due.is("type", x.label(1, i + 1), types[i]);
      due.is("class", x.label(2, i + 1), classes[i]);
    }
    due.is("create in the created directory", x.create(0, 2, 0), -4);
  }

  private static void onlyActive() {
    TypeEnforcer x = world();
    x.stageAllow(1, 3, 1, 72);
    due.is("staged alone", x.create(0, 0, 1), -4);
    x.commit();
    x.stageTransition(1, 3, 1, 5);
    due.is("staged transition", x.create(0, 0, 1), 1);
    due.is("type", x.label(1, 1), 3);
    x.stageClear();
    due.is("cleared stage", x.create(0, 0, 1), 2);
  }
}
