/** Promise 7: commit. */
final class CommitTest {
  private static final Due due = new Due("CommitTest");

  public static void main(String[] args) {
    emptyCommits();
    goodCommit();
    refusedCommit();
    firstViolationIsTold();
    selfAssertion();
    attributeAssertion();
    classesAndBits();
    membershipsGoAlong();
    stagingLeavesActive();
    shorterPolicy();
    fullPolicy();
    due.end();
  }

  private static void violation(String what, TypeEnforcer x, int n, int s, int t, int perms) {
    due.is(what + ": index", x.policyInfo(1), n);
    due.is(what + ": src", x.policyInfo(2), s);
    due.is(what + ": tgt", x.policyInfo(3), t);
    due.is(what + ": perms", x.policyInfo(4), perms);
  }

  private static void emptyCommits() {
    TypeEnforcer x = new TypeEnforcer(4, 4);
    for (int i = 1; i <= 5; i++) {
      Snapshot before = Snapshot.of(x);
      due.is("empty commit", x.commit(), i);
      due.changed("empty commit", before, Snapshot.of(x), Snapshot.SEQ);
    }
  }

  private static TypeEnforcer withWorld() {
    TypeEnforcer x = new TypeEnforcer(6, 4);
    x.spawn(1);
    x.makeObject(2, 0);
    x.check(0, 0, 5);
    x.stageMember(1, 3);
    x.stageAllow(67, 2, 0, 9);
    x.stageTransition(67, 2, 2, 4);
    x.stageNeverallow(67, 2, 0, 2);
    return x;
  }

  private static void goodCommit() {
    TypeEnforcer x = withWorld();
    Snapshot before = Snapshot.of(x);
    due.is("good commit", x.commit(), 1);
    due.changed("good commit", before, Snapshot.of(x), Snapshot.ACTIVE, Snapshot.SEQ);
    due.is("active decision", x.decide(1, 2, 0, 0), 9);
    due.is("active member", x.policyQuery(0, 1, 3, 0), 1);
    due.is("active transition", x.policyQuery(2, 1, 2, 2), 4);
    due.is("active allow count", x.policyInfo(8), 1);
    due.is("active never count", x.policyInfo(9), 1);
    due.is("active transition count", x.policyInfo(10), 1);
    due.is("check under the new policy", x.check(0, 0, 9), 0);
  }

  private static void refusedCommit() {
    TypeEnforcer x = withWorld();
    x.commit();
    x.stageAllow(1, 2, 0, 6);
    x.stageMember(5, 0);
    x.stageTransition(0, 0, 0, 0);
    Snapshot before = Snapshot.of(x);
    due.is("refused commit", x.commit(), -3);
    Snapshot refused = Snapshot.of(x);
    due.changed("refused commit", before, refused, Snapshot.VIOLATION);
    violation("refused commit", x, 0, 1, 2, 2);
    due.is("refused again", x.commit(), -3);
    due.changed("refused again", refused, Snapshot.of(x));
    x.stageClear();
    violation("after stageClear", x, 0, 1, 2, 2);
    due.is("commit after a refused one", x.commit(), 2);
    violation("after a good commit", x, -5, -5, -5, -5);
  }

  private static void firstViolationIsTold() {
    TypeEnforcer x = new TypeEnforcer(6, 4);
    for (int type = 0; type < 6; type++) {
      x.stageMember(type, 0);
    }
    x.stageNeverallow(0, 0, 0, 255);
    x.stageNeverallow(64, 64, 1, 240);
    x.stageNeverallow(64, 64, 1, 255);
    x.stageAllow(5, 5, 1, 16);
    x.commit();
    violation("last pair", x, 1, 5, 5, 16);
    x.stageAllow(5, 0, 1, 33);
    x.commit();
    violation("lower target", x, 1, 5, 0, 32);
    x.stageAllow(0, 5, 1, 64);
    x.commit();
    violation("lower source before lower target", x, 1, 0, 5, 64);
    x.stageAllow(0, 5, 1, 144);
    x.commit();
    violation("bits of all rules", x, 1, 0, 5, 208);
    x.stageAllow(0, 0, 0, 7);
    x.commit();
    violation("lower assertion", x, 0, 0, 0, 7);
  }

  private static void selfAssertion() {
    TypeEnforcer x = new TypeEnforcer(6, 4);
    x.stageMember(3, 0);
    x.stageMember(4, 0);
    x.stageNeverallow(64, 99, 2, 128);
    x.stageAllow(3, 4, 2, 128);
    x.stageAllow(5, 5, 2, 128);
    due.is("self assertion not met", x.commit(), 1);
    x.stageAllow(64, 64, 2, 128);
    due.is("self assertion met", x.commit(), -3);
    violation("self assertion met", x, 0, 3, 3, 128);
    TypeEnforcer y = new TypeEnforcer(6, 4);
    y.stageNeverallow(2, 2, 0, 1);
    y.stageAllow(1, 99, 0, 1);
    due.is("self allow of another type", y.commit(), 1);
    y.stageAllow(2, 99, 0, 1);
    due.is("self allow that is forbidden", y.commit(), -3);
    violation("self allow that is forbidden", y, 0, 2, 2, 1);
  }

  private static void attributeAssertion() {
    TypeEnforcer x = new TypeEnforcer(12, 4);
    x.stageNeverallow(64, 71, 0, 1);
    x.stageAllow(11, 10, 0, 255);
    due.is("attributes without members", x.commit(), 1);
    x.stageMember(11, 0);
    due.is("source a member alone", x.commit(), 2);
    x.stageMember(10, 7);
    due.is("both members", x.commit(), -3);
    violation("both members", x, 0, 11, 10, 1);
  }

  private static void classesAndBits() {
    for (int cls = 0; cls < 4; cls++) {
      TypeEnforcer x = new TypeEnforcer(4, 4);
      x.stageNeverallow(0, 1, cls, 170);
      x.stageAllow(0, 1, cls, 85);
      x.stageAllow(0, 1, (cls + 1) % 4, 255);
      x.stageAllow(1, 0, cls, 255);
      due.is("no bit shared in class " + cls, x.commit(), 1);
      x.stageAllow(0, 1, cls, 128);
      due.is("a bit shared in class " + cls, x.commit(), -3);
      violation("a bit shared", x, 0, 0, 1, 128);
    }
  }

  /** An active rule reads the memberships of its own policy, not the staged ones. */
  private static void membershipsGoAlong() {
    TypeEnforcer x = new TypeEnforcer(6, 4);
    x.stageMember(1, 0);
    x.stageAllow(64, 64, 0, 1);
    x.stageTransition(64, 64, 0, 5);
    x.commit();
    x.stageMember(2, 0);
    due.is("staged decision with the new member", x.decide(2, 1, 0, 1), 1);
    due.is("active decision without it", x.decide(2, 1, 0, 0), 0);
    due.is("staged transition with the new member", x.policyQuery(3, 2, 1, 0), 5);
    due.is("active transition without it", x.policyQuery(2, 2, 1, 0), -5);
    x.stageClear();
    due.is("active decision after stageClear", x.decide(1, 1, 0, 0), 1);
    due.is("active transition after stageClear", x.policyQuery(2, 1, 1, 0), 5);
    due.is("staged decision after stageClear", x.decide(1, 1, 0, 1), 0);
  }

  /** Decisions asked before a change must not be remembered after it. */
  private static void stagingLeavesActive() {
    TypeEnforcer x = new TypeEnforcer(6, 8);
    x.spawn(0);
    x.makeObject(1, 0);
    for (int round = 0; round < 4; round++) {
      int perms = 1 << round;
      int before = x.decide(0, 1, 0, 0);
      x.stageClear();
      x.stageAllow(0, 1, 0, perms);
      due.is("decision while staging", x.decide(0, 1, 0, 0), before);
      due.is("check while staging", x.check(0, 0, 255), 255 & ~before);
      x.commit();
      due.is("decision after commit", x.decide(0, 1, 0, 0), perms);
      due.is("check after commit", x.check(0, 0, 255), 255 & ~perms);
      x.stageNeverallow(0, 1, 0, perms);
      due.is("refused commit", x.commit(), -3);
      due.is("decision after a refused commit", x.decide(0, 1, 0, 0), perms);
    }
  }

  private static void shorterPolicy() {
    TypeEnforcer x = new TypeEnforcer(4, 4);
    x.stageMember(3, 7);
    for (int i = 0; i < 12; i++) {
      x.stageAllow(0, i % 4, i % 3, 255);
      x.stageTransition(0, i % 4, i % 3, 3);
    }
    x.stageNeverallow(1, 1, 1, 1);
    x.commit();
    x.stageClear();
    x.stageAllow(2, 2, 2, 2);
    due.is("commit of a shorter policy", x.commit(), 2);
    due.is("allow count", x.policyInfo(8), 1);
    due.is("never count", x.policyInfo(9), 0);
    due.is("transition count", x.policyInfo(10), 0);
    due.is("dropped decision", x.decide(0, 0, 0, 0), 0);
    due.is("dropped transition", x.policyQuery(2, 0, 0, 0), -5);
    due.is("dropped member", x.policyQuery(0, 3, 7, 0), 0);
    due.is("new decision", x.decide(2, 2, 2, 0), 2);
    x.stageAllow(1, 1, 1, 1);
    due.is("dropped assertion", x.commit(), 3);
  }

  private static void fullPolicy() {
    TypeEnforcer x = new TypeEnforcer(12, 4);
    for (int i = 0; i < 24; i++) {
      x.stageAllow(i % 12, 11 - i % 12, i / 12, 1 + i);
    }
    for (int i = 0; i < 12; i++) {
      x.stageTransition(i, 11 - i, 3, (i + 5) % 12);
    }
    for (int i = 0; i < 6; i++) {
      x.stageNeverallow(i, i, 3, 255);
    }
    due.is("commit of full lists", x.commit(), 1);
    due.is("allow count", x.policyInfo(8), 24);
    due.is("never count", x.policyInfo(9), 6);
    due.is("transition count", x.policyInfo(10), 12);
    for (int i = 0; i < 24; i++) {
      due.is("decision " + i, x.decide(i % 12, 11 - i % 12, i / 12, 0), 1 + i);
    }
    for (int i = 0; i < 12; i++) {
      due.is("transition " + i, x.policyQuery(2, i, 11 - i, 3), (i + 5) % 12);
    }
  }
}
