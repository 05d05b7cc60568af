/** Promise 5: stageTransition. */
final class TransitionTest implements Face {
  private static final Due due = new Due("TransitionTest");
  private static final RuleEdges edges = new RuleEdges(due, Op.STAGE_TRANSITION, MAX_TRANS);

  public static void main(String[] args) {
    due.sentence(5, "`stageTransition(src, tgt, cls, newType)` appends a type transition rule to the STAGED policy.",
        TransitionTest::appends);
    due.sentence(5, "Tests in order, each answering `ERR_ARG` if it fails", () -> due.refuses(Op.STAGE_TRANSITION));
    due.sentence(5, "`src` is a type or attribute name;", edges::source);
    due.sentence(5, "`tgt` is a type or attribute name (`SELF` refused)", edges::target);
    due.sentence(5, "`cls` in `0..3`", edges::cls);
    due.sentence(5, "`newType` in `0..T-1`.", edges::newType);
    due.sentence(5, "Then, if the staged transition count equals `MAX_TRANS`, it answers `ERR_FULL`.", () -> {
      edges.limit();
      edges.fullChangesNothing();
    });
    due.sentence(5, "Otherwise the rule is appended and the answer is its index (the count before).", edges::index);
    due.sentence(5, "Duplicates are kept;", () -> edges.duplicates(PI_STAGED_TRANS));
    due.sentence(5, "rules keep their order, which matters because `TRANSITION_P` uses the lowest-index match.",
        TransitionTest::order);
    due.sentence(5, "Nothing outside the staged transition list changes.", TransitionTest::nothingElse);
    due.end();
  }

  private static void appends() {
    for (int newType = 0; newType < 6; newType++) {
      TypeEnforcer x = new TypeEnforcer(6, 4);
      x.stageTransition(5, 0, CLASS_SOCKET, newType);
      for (int s = 0; s < 6; s++) {
        for (int t = 0; t < 6; t++) {
          for (int cls = 0; cls < 4; cls++) {
            boolean given = s == 5 && t == 0 && cls == CLASS_SOCKET;
            due.is("staged " + s + "," + t + "," + cls, x.policyQuery(Q_TRANS_STAGED, s, t, cls),
                given ? newType : NONE);
            due.is("active " + s + "," + t + "," + cls, x.policyQuery(Q_TRANS_ACTIVE, s, t, cls), NONE);
          }
        }
      }
    }
  }

  /** A later rule for a pair never takes the place of an earlier one, in either policy. */
  private static void order() {
    TypeEnforcer x = new TypeEnforcer(12, 4);
    x.stageMember(1, 0);
    for (int i = 0; i < MAX_TRANS; i++) {
      x.stageTransition(i % 2 == 0 ? 64 : 1, i / 3, CLASS_FILE, 11 - i);
      due.is("first rule for target " + i / 3, x.policyQuery(Q_TRANS_STAGED, 1, i / 3, CLASS_FILE),
          11 - i / 3 * 3);
    }
    x.commit();
    for (int t = 0; t < 12; t++) {
      int want = t < 4 ? 11 - t * 3 : NONE;
      due.is("staged after commit, target " + t, x.policyQuery(Q_TRANS_STAGED, 1, t, CLASS_FILE), want);
      due.is("active after commit, target " + t, x.policyQuery(Q_TRANS_ACTIVE, 1, t, CLASS_FILE), want);
    }
  }

  private static void nothingElse() {
    due.changes("transition", World.BUSY.make(), x -> x.stageTransition(0, 5, CLASS_SOCKET, 5), 4,
        Snapshot.STAGED_TRANS, Snapshot.STAGED_TRANSITIONS);
    due.changes("transition of an empty attribute", World.BUSY.make(),
        x -> x.stageTransition(70, 5, CLASS_SOCKET, 5), 4, Snapshot.STAGED_TRANS);
    due.changes("transition behind another", World.BUSY.make(),
        x -> x.stageTransition(1, 2, CLASS_PROCESS, 5), 4, Snapshot.STAGED_TRANS);
    TypeEnforcer x = World.BUSY.make();
    for (int i = 0; i < MAX_TRANS; i++) {
      x.stageTransition(0, 0, CLASS_FILE, 1);
      due.is("never beside transitions", x.policyInfo(PI_STAGED_NEVER), 2);
    }
    due.is("allow with transitions full", x.stageAllow(0, 0, CLASS_DIR, 1), 8);
    due.is("never with transitions full", x.stageNeverallow(0, 0, CLASS_DIR, 1), 2);
  }
}
