/** Promise 13's audit ring and promise 17, audit. */
final class AuditTest {
  private static final int MIN = Integer.MIN_VALUE, MAX = Integer.MAX_VALUE;
  private static final Due due = new Due("AuditTest");

  public static void main(String[] args) {
    fieldsAndWrongInputs();
    for (int size = 4; size <= 16; size++) {
      dropsTheOldest(size);
      countKeepsThePlace(size);
      droppedEntryComesBackAsNewest(size);
    }
    everyFieldTellsEntriesApart();
    everyFieldShifts();
    due.end();
  }

  /** Nothing is allowed; a check of object t asks type t in class 0. */
  private static TypeEnforcer world(int auditSize) {
    TypeEnforcer x = new TypeEnforcer(6, auditSize);
    x.spawn(1);
    x.spawn(2);
    for (int type = 0; type < 6; type++) {
      x.makeObject(type, 0);
    }
    x.makeObject(0, 3);
    return x;
  }

  private static void perms(String what, TypeEnforcer x, int i, int perms, int count) {
    due.is(what + ": perms of " + i, x.audit(i, 3), perms);
    due.is(what + ": count of " + i, x.audit(i, 4), count);
  }

  private static void fieldsAndWrongInputs() {
    TypeEnforcer x = world(4);
    x.check(1, 6, 130);
    x.check(1, 6, 130);
    x.check(0, 5, 1);
    int[] first = {2, 0, 3, 130, 2};
    int[] second = {1, 5, 0, 1, 1};
    for (int field = 0; field < 5; field++) {
      due.is("field " + field + " of 0", x.audit(0, field), first[field]);
      due.is("field " + field + " of 1", x.audit(1, field), second[field]);
      for (int i : new int[] {MIN, -1, 2, 3, 4, 16, MAX}) {
        due.is("field " + field + " of " + i, x.audit(i, field), -1);
      }
    }
    for (int i : new int[] {MIN, -1, 0, 1, 2, 16, MAX}) {
      due.is("held at " + i, x.audit(i, 5), 2);
      due.is("total at " + i, x.audit(i, 6), 3);
      for (int field : new int[] {MIN, -1, 7, 8, MAX}) {
        due.is("field " + field + " at " + i, x.audit(i, field), -1);
      }
    }
    Snapshot before = Snapshot.of(x);
    due.changed("audit", before, Snapshot.of(x));
  }

  private static void dropsTheOldest(int size) {
    TypeEnforcer x = world(size);
    for (int p = 1; p <= 3 * size; p++) {
      x.check(0, 0, p);
      int held = p < size ? p : size;
      due.is("held after " + p, x.audit(0, 5), held);
      due.is("total after " + p, x.audit(0, 6), p);
      for (int i = 0; i < held; i++) {
        perms("after " + p, x, i, p - held + 1 + i, 1);
      }
      due.is("entry past the newest", x.audit(held, 3), -1);
    }
  }

  private static void countKeepsThePlace(int size) {
    TypeEnforcer x = world(size);
    for (int p = 1; p <= size; p++) {
      x.check(0, 0, p);
    }
    for (int i = 0; i < size; i++) {
      for (int times = 0; times <= i; times++) {
        x.check(0, 0, i + 1);
      }
    }
    due.is("held", x.audit(0, 5), size);
    due.is("total", x.audit(0, 6), size + size * (size + 1) / 2);
    for (int i = 0; i < size; i++) {
      perms("counted", x, i, i + 1, i + 2);
    }
    x.check(0, 0, 100);
    for (int i = 0; i < size - 1; i++) {
      perms("shifted", x, i, i + 2, i + 3);
    }
    perms("shifted", x, size - 1, 100, 1);
  }

  private static void droppedEntryComesBackAsNewest(int size) {
    TypeEnforcer x = world(size);
    x.check(0, 0, 1);
    for (int p = 1; p <= size + 1; p++) {
      x.check(0, 0, p);
    }
    x.check(0, 0, 1);
    perms("came back", x, size - 1, 1, 1);
    perms("oldest", x, 0, 3, 1);
    due.is("held", x.audit(0, 5), size);
    due.is("total", x.audit(0, 6), size + 3);
  }

  private static void everyFieldTellsEntriesApart() {
    TypeEnforcer x = world(8);
    x.check(0, 0, 1);
    x.check(1, 0, 1);
    x.check(0, 1, 1);
    x.check(0, 6, 1);
    x.check(0, 0, 3);
    due.is("five entries", x.audit(0, 5), 5);
    x.check(0, 0, 1);
    due.is("still five entries", x.audit(0, 5), 5);
    due.is("count of the first", x.audit(0, 4), 2);
    due.is("exec shares an entry with check", x.exec(0, 0), -4);
    due.is("six entries", x.audit(0, 5), 6);
    x.check(0, 0, 4);
    due.is("still six entries", x.audit(0, 5), 6);
    due.is("count of the shared entry", x.audit(5, 4), 2);
  }

  private static void everyFieldShifts() {
    TypeEnforcer x = world(4);
    x.check(0, 0, 1);
    x.check(1, 1, 2);
    x.check(0, 6, 4);
    x.check(1, 5, 8);
    x.check(0, 3, 16);
    x.check(1, 1, 2);
    int[][] want = {{2, 1, 0, 2, 2}, {1, 0, 3, 4, 1}, {2, 5, 0, 8, 1}, {1, 3, 0, 16, 1}};
    for (int i = 0; i < want.length; i++) {
      for (int field = 0; field < 5; field++) {
        due.is("shifted field " + field + " of " + i, x.audit(i, field), want[i][field]);
      }
    }
  }
}
