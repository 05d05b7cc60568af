/** Promises 8 to 10: policyInfo, policyQuery and decide. */
final class QueryTest {
  private static final int MIN = Integer.MIN_VALUE, MAX = Integer.MAX_VALUE;
  private static final int[] NO_TYPE = {MIN, -1, 5, 12, 64, 99, MAX};
  private static final int[] NO_CLASS = {MIN, -1, 4, MAX};
  private static final Due due = new Due("QueryTest");

  public static void main(String[] args) {
    info();
    query();
    decide();
    nothingChanges();
    due.end();
  }

  /** Every count differs from every other, so that no two fields can be mixed up. */
  private static TypeEnforcer filled() {
    TypeEnforcer x = new TypeEnforcer(5, 4);
    x.stageMember(1, 2);
    x.stageMember(4, 7);
    stage(x, 3, 1, 2);
    x.commit();
    x.commit();
    stage(x, 6, 4, 5);
    x.stageAllow(0, 1, 3, 128);
    x.stageNeverallow(0, 1, 3, 192);
    x.commit();
    for (int i = 0; i < 7; i++) {
      x.spawn(0);
    }
    for (int i = 0; i < 8; i++) {
      x.makeObject(0, 0);
    }
    return x;
  }

  private static void stage(TypeEnforcer x, int allow, int never, int trans) {
    for (int i = 0; i < allow; i++) {
      x.stageAllow(66, 71, 0, 1 << i);
    }
    for (int i = 0; i < never; i++) {
      x.stageNeverallow(2, 2, 2, 1);
    }
    for (int i = 0; i < trans; i++) {
      x.stageTransition(66, 71, 1, 3);
    }
  }

  private static void info() {
    TypeEnforcer x = filled();
    int[] want = {2, 5, 0, 1, 128, 10, 6, 7, 3, 1, 2, 5, 7, 8};
    for (int field = 0; field < want.length; field++) {
      due.is("field " + field, x.policyInfo(field), want[field]);
    }
    for (int field : new int[] {MIN, -5, -1, 14, 15, 64, MAX}) {
      due.is("field " + field, x.policyInfo(field), -1);
    }
  }

  private static void query() {
    TypeEnforcer x = filled();
    x.stageMember(3, 0);
    x.stageTransition(3, 3, 3, 0);
    for (int c : new int[] {MIN, -1, 0, 4, MAX}) {
      due.is("active member", x.policyQuery(0, 4, 7, c), 1);
      due.is("active non-member", x.policyQuery(0, 3, 0, c), 0);
      due.is("staged member", x.policyQuery(1, 3, 0, c), 1);
      due.is("staged non-member", x.policyQuery(1, 0, 3, c), 0);
    }
    due.is("active transition", x.policyQuery(2, 1, 4, 1), 3);
    due.is("no active transition", x.policyQuery(2, 3, 3, 3), -5);
    due.is("staged transition to type 0", x.policyQuery(3, 3, 3, 3), 0);
    due.is("no staged transition", x.policyQuery(3, 4, 1, 1), -5);
    for (int type : NO_TYPE) {
      for (int kind = 0; kind < 4; kind++) {
        due.is("kind " + kind + " a " + type, x.policyQuery(kind, type, 0, 0), -1);
      }
      due.is("active transition b " + type, x.policyQuery(2, 0, type, 0), -1);
      due.is("staged transition b " + type, x.policyQuery(3, 0, type, 0), -1);
    }
    for (int attr : new int[] {MIN, -1, 8, 32, 64, MAX}) {
      due.is("active attribute " + attr, x.policyQuery(0, 0, attr, 0), -1);
      due.is("staged attribute " + attr, x.policyQuery(1, 0, attr, 0), -1);
    }
    due.is("active attribute past T", x.policyQuery(0, 0, 7, 0), 0);
    for (int cls : NO_CLASS) {
      due.is("active transition class " + cls, x.policyQuery(2, 0, 0, cls), -1);
      due.is("staged transition class " + cls, x.policyQuery(3, 0, 0, cls), -1);
    }
    for (int kind : new int[] {MIN, -1, 4, 5, MAX}) {
      due.is("kind " + kind, x.policyQuery(kind, 0, 0, 0), -1);
    }
  }

  private static void decide() {
    TypeEnforcer x = filled();
    due.is("active", x.decide(1, 4, 0, 0), 7);
    due.is("staged", x.decide(1, 4, 0, 1), 63);
    due.is("staged alone", x.decide(0, 1, 3, 1), 128);
    due.is("not active", x.decide(0, 1, 3, 0), 0);
    for (int type : NO_TYPE) {
      for (int which = 0; which < 2; which++) {
        due.is("src " + type, x.decide(type, 0, 0, which), -1);
        due.is("tgt " + type, x.decide(0, type, 0, which), -1);
      }
    }
    for (int cls : NO_CLASS) {
      due.is("cls " + cls, x.decide(0, 0, cls, 0), -1);
    }
    for (int which : new int[] {MIN, -1, 2, 3, MAX}) {
      due.is("which " + which, x.decide(1, 4, 0, which), -1);
    }
    TypeEnforcer y = new TypeEnforcer(4, 4);
    y.stageAllow(0, 0, 0, 255);
    y.stageAllow(0, 0, 0, 255);
    due.is("all bits twice", y.decide(0, 0, 0, 1), 255);
  }

  /** A look reads every answer, so two looks in a row must be alike. */
  private static void nothingChanges() {
    TypeEnforcer x = filled();
    Snapshot before = Snapshot.of(x);
    x.policyInfo(14);
    x.policyQuery(4, 0, 0, 0);
    x.policyQuery(3, 5, 0, 0);
    x.decide(0, 0, 0, 2);
    due.changed("queries", before, Snapshot.of(x));
    due.is("total after denied decisions", x.audit(0, 6), 0);
  }
}
