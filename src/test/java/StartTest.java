/** Promise 1: construction and the starting state. */
final class StartTest {
  private static final int MIN = Integer.MIN_VALUE, MAX = Integer.MAX_VALUE;
  private static final Due due = new Due("StartTest");

  public static void main(String[] args) {
    int[] given = {MIN, -1, 0, 3, 4, 5, 8, 11, 12, 13, 16, MAX};
    int[] kept = {4, 4, 4, 4, 4, 5, 8, 11, 12, 12, 12, 12};
    for (int i = 0; i < given.length; i++) {
      TypeEnforcer x = new TypeEnforcer(given[i], 4);
      due.is("types " + given[i], x.policyInfo(TypeEnforcer.PI_TYPES), kept[i]);
      due.is("last type of " + given[i], x.spawn(kept[i] - 1), 0);
      due.is("type past the last of " + given[i], x.spawn(kept[i]), -1);
    }
    int[] givenSize = {MIN, -1, 0, 3, 4, 5, 10, 15, 16, 17, MAX};
    int[] keptSize = {4, 4, 4, 4, 4, 5, 10, 15, 16, 16, 16};
    for (int i = 0; i < givenSize.length; i++) {
      due.is("audit size " + givenSize[i], mostHeld(givenSize[i]), keptSize[i]);
    }
    startsEmpty(new TypeEnforcer(4, 4));
    startsEmpty(new TypeEnforcer(12, 16));
    startsEmpty(new TypeEnforcer(MIN, MAX));
    sizesStay();
    objectsAreApart();
    due.end();
  }

  private static int mostHeld(int auditSize) {
    TypeEnforcer x = new TypeEnforcer(4, auditSize);
    x.spawn(0);
    x.makeObject(0, 0);
    for (int perms = 1; perms <= 40; perms++) {
      x.check(0, 0, perms);
    }
    return x.audit(0, TypeEnforcer.AU_HELD);
  }

  private static void startsEmpty(TypeEnforcer x) {
    int types = x.policyInfo(TypeEnforcer.PI_TYPES);
    due.is("seq", x.policyInfo(0), 0);
    for (int field = 1; field <= 4; field++) {
      due.is("violation field " + field, x.policyInfo(field), -5);
    }
    for (int field = 5; field <= 10; field++) {
      due.is("rule count " + field, x.policyInfo(field), 0);
    }
    due.is("processes", x.policyInfo(12), 0);
    due.is("objects", x.policyInfo(13), 0);
    due.is("held", x.audit(0, 5), 0);
    due.is("total", x.audit(0, 6), 0);
    due.is("first entry", x.audit(0, 0), -1);
    for (int kind = 0; kind < 3; kind++) {
      due.is("label kind " + kind, x.label(kind, 0), -1);
    }
    for (int s = 0; s < types; s++) {
      for (int attr = 0; attr < 8; attr++) {
        due.is("active member", x.policyQuery(0, s, attr, 0), 0);
        due.is("staged member", x.policyQuery(1, s, attr, 0), 0);
      }
      for (int t = 0; t < types; t++) {
        for (int cls = 0; cls < 4; cls++) {
          due.is("active decision", x.decide(s, t, cls, 0), 0);
          due.is("staged decision", x.decide(s, t, cls, 1), 0);
          due.is("active transition", x.policyQuery(2, s, t, cls), -5);
          due.is("staged transition", x.policyQuery(3, s, t, cls), -5);
        }
      }
    }
  }

  private static void sizesStay() {
    TypeEnforcer x = new TypeEnforcer(7, 5);
    x.stageMember(6, 0);
    x.stageAllow(64, 99, 0, 255);
    x.commit();
    x.stageClear();
    x.commit();
    due.is("types after edits and commits", x.policyInfo(11), 7);
    due.is("type 6 after edits and commits", x.spawn(6), 0);
    due.is("type 7 after edits and commits", x.spawn(7), -1);
  }

  private static void objectsAreApart() {
    TypeEnforcer x = new TypeEnforcer(4, 4);
    TypeEnforcer y = new TypeEnforcer(4, 4);
    Snapshot before = Snapshot.of(y);
    x.stageMember(0, 0);
    x.stageAllow(0, 0, 0, 1);
    x.stageTransition(0, 0, 0, 1);
    x.commit();
    x.stageNeverallow(0, 0, 0, 1);
    x.commit();
    x.spawn(0);
    x.makeObject(0, 0);
    x.check(0, 0, 2);
    due.changed("work on another object", before, Snapshot.of(y));
  }
}
