/** Promises 2 to 6: the calls that edit the staged policy. */
final class StagingTest {
  private static final int MIN = Integer.MIN_VALUE, MAX = Integer.MAX_VALUE;
  private static final int[] NO_SOURCE = {MIN, -1, 6, 12, 63, 72, 98, 99, 100, MAX};
  private static final int[] NO_TARGET = {MIN, -1, 6, 12, 63, 72, 98, 100, MAX};
  private static final int[] NO_CLASS = {MIN, -1, 4, MAX};
  private static final int[] NO_PERMS = {MIN, -1, 0, 256, 257, MAX};
  private static final int[] NO_TYPE = {MIN, -5, -1, 6, 64, 99, MAX};
  private static final Due due = new Due("StagingTest");

  public static void main(String[] args) {
    memberGood();
    memberRefused();
    rulesGood();
    permRuleRefused(Op.STAGE_ALLOW);
    permRuleRefused(Op.STAGE_NEVERALLOW);
    transitionRefused();
    allowFull();
    neverFull();
    transitionFull();
    refusedBeforeFull();
    matching();
    transitionOrder();
    clear();
    due.end();
  }

  /** An object in which every part holds something, so that a wrong change shows. */
  private static TypeEnforcer busy() {
    TypeEnforcer x = new TypeEnforcer(6, 4);
    x.stageMember(1, 0);
    x.stageAllow(64, 2, 0, 1);
    x.stageTransition(1, 2, 0, 3);
    x.stageNeverallow(5, 5, 3, 128);
    x.commit();
    x.stageAllow(5, 99, 3, 128);
    x.commit();
    x.spawn(1);
    x.makeObject(2, 0);
    x.check(0, 0, 2);
    return x;
  }

  private static void memberGood() {
    TypeEnforcer x = busy();
    Snapshot before = Snapshot.of(x);
    due.is("new member", x.stageMember(4, 7), 1);
    Snapshot after = Snapshot.of(x);
    due.changed("new member", before, after, Snapshot.STAGED_MEMBERS);
    due.is("same member again", x.stageMember(4, 7), 0);
    due.changed("same member again", after, Snapshot.of(x));
    for (int type = 0; type < 6; type++) {
      for (int attr = 0; attr < 8; attr++) {
        boolean member = (type == 4 && attr == 7) || (type == 1 && attr == 0);
        due.is("member " + type + "," + attr, x.policyQuery(1, type, attr, 0), member ? 1 : 0);
        due.is("active " + type + "," + attr, x.policyQuery(0, type, attr, 0),
            type == 1 && attr == 0 ? 1 : 0);
      }
    }
    TypeEnforcer all = new TypeEnforcer(12, 4);
    for (int round = 1; round >= 0; round--) {
      for (int type = 0; type < 12; type++) {
        for (int attr = 0; attr < 8; attr++) {
          due.is("all members, round " + round, all.stageMember(type, attr), round);
        }
      }
    }
  }

  private static void memberRefused() {
    TypeEnforcer x = busy();
    Snapshot before = Snapshot.of(x);
    for (int type : NO_TYPE) {
      due.is("type " + type, x.stageMember(type, 1), -1);
      due.is("type " + type + " and attribute", x.stageMember(type, 8), -1);
    }
    for (int attr : new int[] {MIN, -1, 8, 31, 32, 64, MAX}) {
      due.is("attribute " + attr, x.stageMember(0, attr), -1);
    }
    due.changed("refused stageMember", before, Snapshot.of(x));
  }

  private static void rulesGood() {
    TypeEnforcer x = busy();
    Snapshot a = Snapshot.of(x);
    due.is("stageAllow", x.stageAllow(0, 5, 3, 255), 2);
    Snapshot b = Snapshot.of(x);
    due.changed("stageAllow", a, b, Snapshot.STAGED_ALLOW, Snapshot.STAGED_DECISIONS);
    due.is("the same stageAllow", x.stageAllow(0, 5, 3, 255), 3);
    Snapshot c = Snapshot.of(x);
    due.changed("the same stageAllow", b, c, Snapshot.STAGED_ALLOW);
    due.is("stageNeverallow", x.stageNeverallow(0, 5, 3, 1), 1);
    Snapshot d = Snapshot.of(x);
    due.changed("stageNeverallow that is broken", c, d, Snapshot.STAGED_NEVER);
    due.is("the same stageNeverallow", x.stageNeverallow(0, 5, 3, 1), 2);
    Snapshot e = Snapshot.of(x);
    due.changed("the same stageNeverallow", d, e, Snapshot.STAGED_NEVER);
    due.is("stageTransition", x.stageTransition(71, 0, 3, 5), 1);
    Snapshot f = Snapshot.of(x);
    due.changed("stageTransition of an empty attribute", e, f, Snapshot.STAGED_TRANS);
    due.is("stageTransition", x.stageTransition(0, 5, 3, 5), 2);
    Snapshot g = Snapshot.of(x);
    due.changed("stageTransition", f, g, Snapshot.STAGED_TRANS, Snapshot.STAGED_TRANSITIONS);
    due.is("the same stageTransition", x.stageTransition(0, 5, 3, 5), 3);
    due.changed("the same stageTransition", g, Snapshot.of(x), Snapshot.STAGED_TRANS);
    edgesAccepted();
  }

  private static void edgesAccepted() {
    int[] names = {0, 5, 64, 71};
    for (int src : names) {
      for (int tgt : names) {
        TypeEnforcer x = new TypeEnforcer(6, 4);
        due.is("allow " + src + "," + tgt, x.stageAllow(src, tgt, 0, 1), 0);
        due.is("never " + src + "," + tgt, x.stageNeverallow(src, tgt, 3, 255), 0);
        due.is("transition " + src + "," + tgt, x.stageTransition(src, tgt, 3, 5), 0);
        due.is("allow self of " + src, x.stageAllow(src, 99, 3, 255), 1);
        due.is("never self of " + src, x.stageNeverallow(src, 99, 0, 1), 1);
        due.is("transition to 0", x.stageTransition(src, tgt, 0, 0), 1);
      }
    }
  }

  private static void permRuleRefused(Op op) {
    TypeEnforcer x = busy();
    Engine e = new RealEngine(x);
    Snapshot before = Snapshot.of(x);
    for (int src : NO_SOURCE) {
      due.is(op + " src " + src, e.call(op, src, 0, 0, 1), -1);
      due.is(op + " src " + src + " on self", e.call(op, src, 99, 0, 1), -1);
    }
    for (int tgt : NO_TARGET) {
      due.is(op + " tgt " + tgt, e.call(op, 0, tgt, 0, 1), -1);
    }
    for (int cls : NO_CLASS) {
      due.is(op + " cls " + cls, e.call(op, 0, 0, cls, 1), -1);
    }
    for (int perms : NO_PERMS) {
      due.is(op + " perms " + perms, e.call(op, 0, 0, 0, perms), -1);
    }
    due.changed("refused " + op, before, Snapshot.of(x));
  }

  private static void transitionRefused() {
    TypeEnforcer x = busy();
    Snapshot before = Snapshot.of(x);
    for (int name : NO_SOURCE) {
      due.is("transition src " + name, x.stageTransition(name, 0, 0, 1), -1);
      due.is("transition tgt " + name, x.stageTransition(0, name, 0, 1), -1);
    }
    for (int cls : NO_CLASS) {
      due.is("transition cls " + cls, x.stageTransition(0, 0, cls, 1), -1);
    }
    for (int type : NO_TYPE) {
      due.is("transition newType " + type, x.stageTransition(0, 0, 0, type), -1);
    }
    due.changed("refused stageTransition", before, Snapshot.of(x));
  }

  private static void allowFull() {
    TypeEnforcer x = new TypeEnforcer(6, 4);
    for (int i = 0; i < 24; i++) {
      due.is("allow " + i, x.stageAllow(i % 6, 0, i % 4, 1 << (i % 8)), i);
    }
    Snapshot before = Snapshot.of(x);
    due.is("allow past the limit", x.stageAllow(5, 5, 3, 255), -2);
    due.changed("allow past the limit", before, Snapshot.of(x));
    due.is("never beside full allow", x.stageNeverallow(5, 5, 3, 255), 0);
    due.is("transition beside full allow", x.stageTransition(5, 5, 3, 0), 0);
  }

  private static void neverFull() {
    TypeEnforcer x = new TypeEnforcer(6, 4);
    for (int i = 0; i < 6; i++) {
      due.is("never " + i, x.stageNeverallow(0, 0, 0, 1), i);
    }
    Snapshot before = Snapshot.of(x);
    due.is("never past the limit", x.stageNeverallow(5, 5, 3, 255), -2);
    due.changed("never past the limit", before, Snapshot.of(x));
    due.is("allow beside full never", x.stageAllow(5, 5, 3, 255), 0);
    due.is("commit after a never past the limit", x.commit(), 1);
  }

  private static void transitionFull() {
    TypeEnforcer x = new TypeEnforcer(6, 4);
    for (int i = 0; i < 12; i++) {
      due.is("transition " + i, x.stageTransition(i % 6, 0, i / 6, 1), i);
    }
    Snapshot before = Snapshot.of(x);
    due.is("transition past the limit", x.stageTransition(5, 5, 3, 2), -2);
    due.changed("transition past the limit", before, Snapshot.of(x));
    due.is("allow beside full transition", x.stageAllow(5, 5, 3, 255), 0);
  }

  private static void refusedBeforeFull() {
    TypeEnforcer x = new TypeEnforcer(4, 4);
    for (int i = 0; i < 24; i++) {
      x.stageAllow(0, 0, 0, 1);
      x.stageNeverallow(0, 1, 0, 1);
      x.stageTransition(0, 0, 0, 1);
    }
    due.is("wrong allow on a full list", x.stageAllow(0, 0, 0, 0), -1);
    due.is("wrong never on a full list", x.stageNeverallow(99, 0, 0, 1), -1);
    due.is("wrong transition on a full list", x.stageTransition(0, 99, 0, 1), -1);
    x.commit();
    due.is("allow on a full list after commit", x.stageAllow(0, 0, 0, 1), -2);
    x.stageClear();
    due.is("allow after stageClear", x.stageAllow(0, 0, 0, 1), 0);
    due.is("never after stageClear", x.stageNeverallow(0, 1, 0, 1), 0);
    due.is("transition after stageClear", x.stageTransition(0, 0, 0, 1), 0);
  }

  /** What a name matches, seen through the staged decision. */
  private static void matching() {
    TypeEnforcer x = new TypeEnforcer(6, 4);
    x.stageAllow(71, 64, 1, 3);
    due.is("attributes without members", x.decide(1, 2, 1, 1), 0);
    x.stageMember(1, 7);
    x.stageMember(2, 0);
    due.is("members that came after the rule", x.decide(1, 2, 1, 1), 3);
    due.is("wrong way round", x.decide(2, 1, 1, 1), 0);
    due.is("other class", x.decide(1, 2, 0, 1), 0);
    x.stageAllow(1, 2, 1, 6);
    due.is("bits of two rules together", x.decide(1, 2, 1, 1), 7);
    x.stageAllow(71, 99, 2, 128);
    due.is("self on itself", x.decide(1, 1, 2, 1), 128);
    due.is("self on another", x.decide(1, 2, 2, 1), 0);
    due.is("self of a type outside the attribute", x.decide(2, 2, 2, 1), 0);
  }

  private static void transitionOrder() {
    TypeEnforcer x = new TypeEnforcer(6, 4);
    x.stageMember(1, 2);
    x.stageTransition(66, 3, 0, 4);
    x.stageTransition(1, 3, 0, 5);
    x.stageTransition(1, 3, 1, 0);
    due.is("lowest index", x.policyQuery(3, 1, 3, 0), 4);
    due.is("other class", x.policyQuery(3, 1, 3, 1), 0);
    due.is("other target", x.policyQuery(3, 1, 2, 0), -5);
    x.commit();
    due.is("lowest index when active", x.policyQuery(2, 1, 3, 0), 4);
  }

  private static void clear() {
    TypeEnforcer x = busy();
    Snapshot before = Snapshot.of(x);
    x.stageClear();
    Snapshot cleared = Snapshot.of(x);
    due.changed("stageClear", before, cleared, Snapshot.STAGED_MEMBERS, Snapshot.STAGED_DECISIONS,
        Snapshot.STAGED_ALLOW, Snapshot.STAGED_NEVER, Snapshot.STAGED_TRANS, Snapshot.STAGED_TRANSITIONS);
    due.is("allow count", x.policyInfo(5), 0);
    due.is("never count", x.policyInfo(6), 0);
    due.is("transition count", x.policyInfo(7), 0);
    due.is("member", x.policyQuery(1, 1, 0, 0), 0);
    due.is("decision", x.decide(1, 2, 0, 1), 0);
    x.stageClear();
    due.changed("stageClear on an empty policy", cleared, Snapshot.of(x));
    due.is("violation of the refused commit", x.policyInfo(1), 0);
    x.stageAllow(5, 99, 3, 128);
    due.is("commit without the cleared assertion", x.commit(), 2);
    TypeEnforcer twelve = new TypeEnforcer(12, 4);
    for (int type = 0; type < 12; type++) {
      twelve.stageMember(type, type % 8);
    }
    twelve.stageClear();
    for (int type = 0; type < 12; type++) {
      due.is("member again after clear", twelve.stageMember(type, type % 8), 1);
    }
  }
}
