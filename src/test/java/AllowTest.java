/** Promise 3: stageAllow. */
final class AllowTest implements Face {
  private static final Due due = new Due("AllowTest");
  private static final RuleEdges edges = new RuleEdges(due, Op.STAGE_ALLOW, MAX_ALLOW);

  public static void main(String[] args) {
    due.sentence(3, "`stageAllow(src, tgt, cls, perms)` appends an allow rule to the STAGED policy.",
        AllowTest::appends);
    due.sentence(3, "Tests in order, each answering `ERR_ARG` if it fails", () -> due.refuses(Op.STAGE_ALLOW));
    due.sentence(3, "`src` is a type or attribute name (`0..T-1` or `64..71`; `SELF` and every other value refused)",
        edges::source);
    due.sentence(3, "`tgt` is a type, an attribute name or `SELF`", edges::target);
    due.sentence(3, "`cls` in `0..3`", edges::cls);
    due.sentence(3, "`perms` in `1..255`.", edges::perms);
    due.sentence(3, "Then, if the staged allow count equals `MAX_ALLOW`, it answers `ERR_FULL`.", () -> {
      edges.limit();
      edges.fullChangesNothing();
    });
    due.sentence(3, "Otherwise the rule is appended and the answer is its index, 0-based, equal to the count before.",
        AllowTest::index);
    due.sentence(3, "Duplicate rules are kept and each counts toward the limit.",
        () -> edges.duplicates(PI_STAGED_ALLOW));
    due.sentence(3, "Nothing else changes: not the active policy, the other staged lists, memberships, seq, violation "
        + "fields, processes, objects or the audit ring.", AllowTest::nothingElse);
    due.end();
  }

  private static void appends() {
    TypeEnforcer x = new TypeEnforcer(6, 4);
    x.stageAllow(5, 0, CLASS_SOCKET, 129);
    for (int s = 0; s < 6; s++) {
      for (int t = 0; t < 6; t++) {
        for (int cls = 0; cls < 4; cls++) {
          boolean given = s == 5 && t == 0 && cls == CLASS_SOCKET;
          due.is("staged " + s + "," + t + "," + cls, x.decide(s, t, cls, WHICH_STAGED), given ? 129 : 0);
          due.is("active " + s + "," + t + "," + cls, x.decide(s, t, cls, WHICH_ACTIVE), 0);
        }
      }
    }
  }

  private static void index() {
    edges.index();
    TypeEnforcer x = new TypeEnforcer(12, 4);
    for (int i = 0; i < MAX_ALLOW; i++) {
      due.is("count before", x.policyInfo(PI_STAGED_ALLOW), i);
      x.stageAllow(i % 12, i / 12, i % 4, i + 1);
      due.is("count after", x.policyInfo(PI_STAGED_ALLOW), i + 1);
      for (int j = 0; j <= i; j++) {
        due.is("rule " + j + " of " + i, x.decide(j % 12, j / 12, j % 4, WHICH_STAGED), j + 1);
      }
    }
  }

  private static void nothingElse() {
    due.changes("allow", World.BUSY.make(), x -> x.stageAllow(0, 5, CLASS_SOCKET, 255), 8,
        Snapshot.STAGED_ALLOW, Snapshot.STAGED_DECISIONS);
    due.changes("allow that adds no permission", World.BUSY.make(),
        x -> x.stageAllow(1, 2, CLASS_FILE, P_READ), 8, Snapshot.STAGED_ALLOW);
    due.changes("allow on a new object", World.NEW.make(), x -> x.stageAllow(3, SELF, CLASS_SOCKET, 1), 0,
        Snapshot.STAGED_ALLOW, Snapshot.STAGED_DECISIONS);
    due.changes("allow that an assertion forbids", World.BUSY.make(),
        x -> x.stageAllow(5, 5, CLASS_SOCKET, 255), 8, Snapshot.STAGED_ALLOW, Snapshot.STAGED_DECISIONS);
    TypeEnforcer x = World.BUSY.make();
    for (int i = 0; i < MAX_ALLOW; i++) {
      x.stageAllow(0, 0, CLASS_FILE, 1);
      due.is("never beside allow", x.policyInfo(PI_STAGED_NEVER), 2);
    }
    due.is("never with allow full", x.stageNeverallow(0, 0, CLASS_DIR, 1), 2);
    due.is("transition with allow full", x.stageTransition(0, 0, CLASS_DIR, 1), 4);
    due.is("the violation is found as before", x.commit(), ERR_NEVERALLOW);
    due.violation("the violation is found as before", x, 0, 5, 5, P_SIGNAL);
  }
}
