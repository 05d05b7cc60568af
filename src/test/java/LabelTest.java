/** Promises 11, 12 and 16: spawn, makeObject and label. */
final class LabelTest {
  private static final int MIN = Integer.MIN_VALUE, MAX = Integer.MAX_VALUE;
  private static final int[] NO_TYPE = {MIN, -1, 6, 12, 64, 99, MAX};
  private static final Due due = new Due("LabelTest");

  public static void main(String[] args) {
    processes();
    objects();
    label();
    due.end();
  }

  private static void processes() {
    TypeEnforcer x = new TypeEnforcer(6, 4);
    refuseSpawn(x);
    for (int pid = 0; pid < 8; pid++) {
      Snapshot before = Snapshot.of(x);
      due.is("spawn " + pid, x.spawn((pid + 3) % 6), pid);
      due.changed("spawn " + pid, before, Snapshot.of(x), Snapshot.PROCESSES);
      due.is("processes", x.policyInfo(12), pid + 1);
    }
    Snapshot full = Snapshot.of(x);
    due.is("spawn past the limit", x.spawn(0), -2);
    due.changed("spawn past the limit", full, Snapshot.of(x));
    refuseSpawn(x);
    for (int pid = 0; pid < 8; pid++) {
      due.is("domain " + pid, x.label(0, pid), (pid + 3) % 6);
    }
    due.is("makeObject beside full processes", x.makeObject(0, 0), 0);
  }

  private static void refuseSpawn(TypeEnforcer x) {
    Snapshot before = Snapshot.of(x);
    for (int type : NO_TYPE) {
      due.is("spawn " + type, x.spawn(type), -1);
    }
    due.changed("refused spawn", before, Snapshot.of(x));
  }

  private static void objects() {
    TypeEnforcer x = new TypeEnforcer(6, 4);
    refuseObject(x);
    for (int oid = 0; oid < 16; oid++) {
      Snapshot before = Snapshot.of(x);
      due.is("makeObject " + oid, x.makeObject((oid + 1) % 6, oid % 4), oid);
      due.changed("makeObject " + oid, before, Snapshot.of(x), Snapshot.OBJECTS);
      due.is("objects", x.policyInfo(13), oid + 1);
    }
    Snapshot full = Snapshot.of(x);
    due.is("makeObject past the limit", x.makeObject(0, 0), -2);
    due.changed("makeObject past the limit", full, Snapshot.of(x));
    refuseObject(x);
    for (int oid = 0; oid < 16; oid++) {
      due.is("type " + oid, x.label(1, oid), (oid + 1) % 6);
      due.is("class " + oid, x.label(2, oid), oid % 4);
    }
    due.is("spawn beside full objects", x.spawn(0), 0);
  }

  private static void refuseObject(TypeEnforcer x) {
    Snapshot before = Snapshot.of(x);
    for (int type : NO_TYPE) {
      due.is("makeObject type " + type, x.makeObject(type, 0), -1);
    }
    for (int cls : new int[] {MIN, -1, 4, MAX}) {
      due.is("makeObject class " + cls, x.makeObject(0, cls), -1);
    }
    due.changed("refused makeObject", before, Snapshot.of(x));
  }

  private static void label() {
    TypeEnforcer x = new TypeEnforcer(6, 4);
    x.spawn(5);
    x.spawn(4);
    x.makeObject(1, 3);
    x.makeObject(2, 2);
    x.makeObject(3, 0);
    due.is("domain", x.label(0, 1), 4);
    due.is("type", x.label(1, 1), 2);
    due.is("class", x.label(2, 0), 3);
    due.is("last type", x.label(1, 2), 3);
    due.is("last class", x.label(2, 2), 0);
    due.is("pid not in use that is an oid", x.label(0, 2), -1);
    for (int id : new int[] {MIN, -1, 3, 8, 16, MAX}) {
      for (int kind = 0; kind < 3; kind++) {
        due.is("kind " + kind + " id " + id, x.label(kind, id), -1);
      }
    }
    for (int kind : new int[] {MIN, -1, 3, 4, MAX}) {
      due.is("kind " + kind, x.label(kind, 0), -1);
    }
    TypeEnforcer y = new TypeEnforcer(6, 4);
    for (int pid = 0; pid < 5; pid++) {
      y.spawn(1);
    }
    y.makeObject(1, 1);
    due.is("oid not in use that is a pid", y.label(1, 3), -1);
    due.is("oid not in use that is a pid", y.label(2, 3), -1);
  }
}
