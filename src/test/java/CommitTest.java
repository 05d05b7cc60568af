/** Promise 7: commit. That seq goes past the greatest int is in WrapTest. */
final class CommitTest implements Face {
  private static final Due due = new Due("CommitTest");

  public static void main(String[] args) {
    due.sentence(7, "`commit()` loads the staged policy.", CommitTest::loads);
    due.sentence(7, "It searches neverallow rules n = 0, 1, ... in index order", CommitTest::indexOrder);
    due.sentence(7, "then source type s = 0..T-1 ascending", CommitTest::sourceOrder);
    due.sentence(7, "then target type t = 0..T-1 ascending.", CommitTest::targetOrder);
    due.sentence(7, "If `n.src` matches s, `n.tgt` matches t (with source s, so `SELF` matches exactly t == s), and "
        + "`V_staged(s,t,n.cls) & n.perms != 0`, this is the violation;", CommitTest::whatIsAViolation);
    due.sentence(7, "the search stops at the first one found.", CommitTest::stopsAtTheFirst);
    due.sentence(7, "On a violation: the violation fields become (n, s, t, `V_staged(s,t,n.cls) & n.perms`) for `PI_VIOL_INDEX`, "
        + "`PI_VIOL_SRC`, `PI_VIOL_TGT` and `PI_VIOL_PERMS`;", CommitTest::violationFields);
    due.sentence(7, "nothing else changes (the active policy, the staged policy, seq, processes, objects and audit "
        + "ring stay as they were);", CommitTest::refusedChangesNothingElse);
    due.sentence(7, "the answer is `ERR_NEVERALLOW`.", CommitTest::refusedAnswer);
    due.sentence(7, "Otherwise: the active policy becomes an exact copy of the staged one (memberships and all three "
        + "rule lists, in order);", CommitTest::exactCopy);
    due.sentence(7, "the staged policy stays as it is;", CommitTest::stagedStays);
    due.sentence(7, "seq increases by 1", CommitTest::seqIncreases);
    due.sentence(7, "all four violation fields become `NONE`;", CommitTest::violationGoes);
    due.sentence(7, "the answer is the new seq.", CommitTest::answersSeq);
    due.sentence(7, "Labels of processes and objects are not changed, and the audit ring is not changed.",
        CommitTest::labelsAndRingStay);
    due.sentence(7, "A staged policy with no neverallow rules always commits.", CommitTest::withoutAssertions);
    due.sentence(7, "Consequences that hold for every sequence of calls: every answer of `decide(s,t,c,WHICH_ACTIVE)`, "
        + "and every permission decision used inside `exec`, `create` and `check`, equals `V` computed over the policy copied by the most recent successful commit "
        + "(the empty policy if there was none), with memberships from that same committed policy, no matter how "
        + "many commits, refused commits or staging edits came between.", CommitTest::lastCommittedPolicyDecides);
    due.sentence(7, "And immediately after any call, for every neverallow rule n of the active policy and every pair "
        + "of types s, t where n's source matches s and n's target matches t, `decide(s,t,n.cls,WHICH_ACTIVE) & "
        + "n.perms == 0`.", CommitTest::activeAssertionsHold);
    due.end();
  }

  private static void loads() {
    TypeEnforcer x = new TypeEnforcer(6, 4);
    x.stageMember(1, 3);
    x.stageAllow(67, 2, CLASS_FILE, 9);
    x.stageTransition(67, 2, CLASS_PROCESS, 4);
    x.stageNeverallow(67, 2, CLASS_FILE, 2);
    due.changes("commit", x, TypeEnforcer::commit, 1, Snapshot.ACTIVE, Snapshot.SEQ);
    due.is("decision", x.decide(1, 2, CLASS_FILE, WHICH_ACTIVE), 9);
    due.is("member", x.policyQuery(Q_MEMBER_ACTIVE, 1, 3, 0), 1);
    due.is("transition", x.policyQuery(Q_TRANS_ACTIVE, 1, 2, CLASS_PROCESS), 4);
  }

  /** Every type is in attribute 0, so that one assertion meets every pair. */
  private static TypeEnforcer allInOne(int types) {
    TypeEnforcer x = new TypeEnforcer(types, 4);
    for (int type = 0; type < types; type++) {
      x.stageMember(type, 0);
    }
    return x;
  }

  /** Of two broken assertions the lower is told, though the other is met by lower types. */
  private static void indexOrder() {
    for (int lower = 0; lower < MAX_NEVER; lower++) {
      for (int higher = lower; higher < MAX_NEVER; higher++) {
        TypeEnforcer x = new TypeEnforcer(4, 4);
        for (int n = 0; n < MAX_NEVER; n++) {
          int type = n == lower ? 3 : n == higher ? 0 : 1;
          x.stageNeverallow(type, type, CLASS_FILE, 1);
        }
        x.stageAllow(0, 0, CLASS_FILE, 1);
        x.stageAllow(3, 3, CLASS_FILE, 1);
        x.commit();
        due.violation("assertions " + lower + " and " + higher, x, lower, 3, 3, 1);
      }
    }
  }

  /** Of two sources the lower is told, though its target is the higher. */
  private static void sourceOrder() {
    for (int types : new int[] {4, 12}) {
      for (int low = 0; low < types; low++) {
        for (int high = low; high < types; high++) {
          TypeEnforcer x = allInOne(types);
          x.stageNeverallow(64, 64, CLASS_DIR, 2);
          x.stageAllow(high, 0, CLASS_DIR, 2);
          x.stageAllow(low, types - 1, CLASS_DIR, 2);
          x.commit();
          due.violation("sources " + low + " and " + high, x, 0, low, low == high ? 0 : types - 1, 2);
        }
      }
    }
  }

  private static void targetOrder() {
    for (int types : new int[] {4, 12}) {
      for (int low = 0; low < types; low++) {
        for (int high = low; high < types; high++) {
          TypeEnforcer x = allInOne(types);
          x.stageNeverallow(64, 64, CLASS_DIR, 2);
          x.stageAllow(1, high, CLASS_DIR, 2);
          x.stageAllow(1, low, CLASS_DIR, 2);
          x.commit();
          due.violation("targets " + low + " and " + high, x, 0, 1, low, 2);
        }
      }
    }
  }

  /** Types 1 and 2 are in attribute 0, types 2 and 4 in attribute 7. */
  private static boolean matches(int name, int type, int source) {
    switch (name) {
      case 64: return type == 1 || type == 2;
      case 71: return type == 2 || type == 4;
      case SELF: return type == source;
      default: return name == type;
    }
  }

  private static TypeEnforcer someMembers() {
    TypeEnforcer x = new TypeEnforcer(5, 4);
    x.stageMember(1, 0);
    x.stageMember(2, 0);
    x.stageMember(2, 7);
    x.stageMember(4, 7);
    return x;
  }

  /** Every name against every allowed pair; then the class and the bits. */
  private static void whatIsAViolation() {
    int[] names = {0, 1, 2, 3, 4, 64, 65, 71, SELF};
    for (int src : names) {
      for (int tgt : names) {
        for (int place = 0; place < 25 && src != SELF; place++) {
          int s = place / 5;
          int t = place % 5;
          TypeEnforcer x = someMembers();
          x.stageNeverallow(src, tgt, CLASS_FILE, 1);
          x.stageAllow(s, t, CLASS_FILE, 1);
          boolean met = matches(src, s, s) && matches(tgt, t, s);
          String what = "assertion " + src + "," + tgt + " on " + s + "," + t;
          due.is(what, x.commit(), met ? ERR_NEVERALLOW : 1);
          due.violation(what, x, met ? 0 : NONE, met ? s : NONE, met ? t : NONE, met ? 1 : NONE);
        }
      }
    }
    for (int never = 1; never <= 255; never += 2) {
      for (int cls = 0; cls < 4; cls++) {
        TypeEnforcer x = new TypeEnforcer(4, 4);
        x.stageNeverallow(0, 1, cls, never);
        if (never != 255) {
          x.stageAllow(0, 1, cls, 255 & ~never);
        }
        x.stageAllow(0, 1, (cls + 1) % 4, 255);
        x.stageAllow(1, 0, cls, 255);
        due.is("no bit of " + never + " in class " + cls, x.commit(), 1);
        x.stageAllow(0, 1, cls, 129);
        due.is("a bit of " + never + " in class " + cls, x.commit(), ERR_NEVERALLOW);
        due.violation("a bit of " + never + " in class " + cls, x, 0, 0, 1, never & 129);
      }
    }
  }

  /** Each of several violations is told once those before it are gone. */
  private static void stopsAtTheFirst() {
    int[][] inOrder = {{0, 0, 3}, {0, 2, 1}, {0, 3, 0}, {1, 0, 0}, {1, 3, 3}};
    for (int first = 0; first < inOrder.length; first++) {
      TypeEnforcer x = allInOne(4);
      x.stageNeverallow(64, 64, CLASS_FILE, 255);
      x.stageNeverallow(64, SELF, CLASS_DIR, 255);
      for (int i = inOrder.length - 1; i >= first; i--) {
        x.stageAllow(inOrder[i][1], inOrder[i][2], inOrder[i][0], 1 << i);
      }
      due.is("violations from " + first, x.commit(), ERR_NEVERALLOW);
      due.violation("violations from " + first, x, inOrder[first][0], inOrder[first][1], inOrder[first][2],
          1 << first);
    }
  }

  private static void violationFields() {
    TypeEnforcer x = new TypeEnforcer(12, 4);
    for (int n = 0; n < 5; n++) {
      x.stageNeverallow(0, 0, CLASS_SOCKET, 255);
    }
    x.stageNeverallow(11, 10, CLASS_SOCKET, 0xF0);
    x.stageAllow(11, 10, CLASS_SOCKET, 0x31);
    x.commit();
    due.violation("bits of one rule", x, 5, 11, 10, 0x30);
    x.stageAllow(11, 10, CLASS_SOCKET, 0x9F);
    x.commit();
    due.violation("bits of two rules", x, 5, 11, 10, 0xB0);
    x.stageAllow(0, 0, CLASS_SOCKET, 255);
    x.commit();
    due.violation("another violation", x, 0, 0, 0, 255);
    x.stageClear();
    due.violation("after stageClear", x, 0, 0, 0, 255);
  }

  private static void refusedChangesNothingElse() {
    TypeEnforcer x = World.BUSY.make();
    x.stageClear();
    x.commit();
    x.stageMember(5, 0);
    x.stageAllow(1, 2, CLASS_FILE, 255);
    x.stageTransition(0, 0, CLASS_FILE, 0);
    x.stageNeverallow(1, 2, CLASS_FILE, 8);
    due.changes("refused commit", x, TypeEnforcer::commit, ERR_NEVERALLOW, Snapshot.VIOLATION);
    due.changes("refused again", x, TypeEnforcer::commit, ERR_NEVERALLOW);
    due.leaves("refused commit with the same violation", World.BUSY, TypeEnforcer::commit, ERR_NEVERALLOW);
    due.leaves("refused commit with the same violation", World.FULL, TypeEnforcer::commit, ERR_NEVERALLOW);
  }

  private static void refusedAnswer() {
    TypeEnforcer x = allInOne(4);
    x.stageNeverallow(64, 64, CLASS_FILE, 128);
    due.is("not broken", x.commit(), 1);
    x.stageAllow(3, 3, CLASS_FILE, 128);
    for (int i = 0; i < 10; i++) {
      due.is("broken", x.commit(), ERR_NEVERALLOW);
    }
  }

  private static void exactCopy() {
    TypeEnforcer x = fullLists();
    due.is("commit of full lists", x.commit(), 1);
    same("full lists", x);
    for (int i = 0; i < MAX_ALLOW; i++) {
      due.is("decision by rule " + i, x.decide(i % 12, 11 - i % 12, i / 12, WHICH_ACTIVE), 1 + i);
    }
    for (int i = 0; i < MAX_TRANS; i++) {
      due.is("transition by rule " + i, x.policyQuery(Q_TRANS_ACTIVE, i, 11 - i, CLASS_SOCKET), (i + 5) % 12);
    }
    x.stageClear();
    x.stageMember(0, 0);
    x.stageAllow(64, SELF, CLASS_FILE, 3);
    x.stageTransition(64, 64, CLASS_FILE, 5);
    x.stageTransition(0, 0, CLASS_FILE, 6);
    x.stageNeverallow(1, 1, CLASS_FILE, 3);
    x.commit();
    same("shorter lists", x);
    due.is("decision", x.decide(0, 0, CLASS_FILE, WHICH_ACTIVE), 3);
    due.is("first transition", x.policyQuery(Q_TRANS_ACTIVE, 0, 0, CLASS_FILE), 5);
    x.stageClear();
    x.commit();
    same("empty lists", x);
    due.is("no decision", x.decide(0, 0, CLASS_FILE, WHICH_ACTIVE), 0);
    due.is("no transition", x.policyQuery(Q_TRANS_ACTIVE, 0, 0, CLASS_FILE), NONE);
    due.is("no member", x.policyQuery(Q_MEMBER_ACTIVE, 0, 0, 0), 0);
  }

  private static TypeEnforcer fullLists() {
    TypeEnforcer x = new TypeEnforcer(12, 4);
    for (int i = 0; i < MAX_ALLOW; i++) {
      x.stageMember(i % 12, (i + i / 12) % 8);
      x.stageAllow(i % 12, 11 - i % 12, i / 12, 1 + i);
    }
    for (int i = 0; i < MAX_TRANS; i++) {
      x.stageTransition(i, 11 - i, CLASS_SOCKET, (i + 5) % 12);
    }
    for (int i = 0; i < MAX_NEVER; i++) {
      x.stageNeverallow(i, i, CLASS_SOCKET, 255);
    }
    return x;
  }

  private static void same(String what, TypeEnforcer x) {
    for (int field = PI_STAGED_ALLOW; field <= PI_STAGED_TRANS; field++) {
      due.is(what + ": count", x.policyInfo(field + 3), x.policyInfo(field));
    }
    for (int s = 0; s < 12; s++) {
      for (int attr = 0; attr < NUM_ATTRS; attr++) {
        due.is(what + ": member", x.policyQuery(Q_MEMBER_ACTIVE, s, attr, 0),
            x.policyQuery(Q_MEMBER_STAGED, s, attr, 0));
      }
      for (int t = 0; t < 12; t++) {
        for (int cls = 0; cls < 4; cls++) {
          due.is(what + ": decision", x.decide(s, t, cls, WHICH_ACTIVE), x.decide(s, t, cls, WHICH_STAGED));
          due.is(what + ": transition", x.policyQuery(Q_TRANS_ACTIVE, s, t, cls),
              x.policyQuery(Q_TRANS_STAGED, s, t, cls));
        }
      }
    }
  }

  /** It goes on from where it was: the next index, the members, the assertions. */
  private static void stagedStays() {
    TypeEnforcer x = World.FULL.make();
    x.stageClear();
    x.stageMember(1, 3);
    x.stageAllow(67, 2, CLASS_FILE, 9);
    x.stageTransition(67, 2, CLASS_PROCESS, 4);
    x.stageNeverallow(67, 2, CLASS_FILE, 2);
    due.changes("commit", x, TypeEnforcer::commit, 2, Snapshot.ACTIVE, Snapshot.SEQ, Snapshot.VIOLATION);
    due.is("same member", x.stageMember(1, 3), 0);
    due.is("next allow", x.stageAllow(1, 2, CLASS_FILE, 2), 1);
    due.is("next transition", x.stageTransition(1, 2, CLASS_PROCESS, 5), 1);
    due.is("assertion is still there", x.commit(), ERR_NEVERALLOW);
    due.violation("assertion is still there", x, 0, 1, 2, 2);
    due.is("first transition is still there", x.policyQuery(Q_TRANS_STAGED, 1, 2, CLASS_PROCESS), 4);
  }

  private static void seqIncreases() {
    TypeEnforcer x = new TypeEnforcer(4, 4);
    for (int i = 1; i <= 300; i++) {
      x.commit();
      due.is("seq after commit " + i, x.policyInfo(PI_SEQ), i);
    }
    x.stageAllow(0, 0, CLASS_FILE, 1);
    x.stageNeverallow(0, 0, CLASS_FILE, 1);
    x.commit();
    due.is("seq after a refused commit", x.policyInfo(PI_SEQ), 300);
    x.stageClear();
    due.is("seq after stageClear", x.policyInfo(PI_SEQ), 300);
    x.commit();
    due.is("seq after the next commit", x.policyInfo(PI_SEQ), 301);
  }

  private static void violationGoes() {
    TypeEnforcer x = World.BUSY.make();
    due.violation("before", x, 0, 5, 5, P_SIGNAL);
    x.stageClear();
    x.commit();
    due.violation("after a commit", x, NONE, NONE, NONE, NONE);
    x.commit();
    due.violation("after another", x, NONE, NONE, NONE, NONE);
  }

  private static void answersSeq() {
    TypeEnforcer x = new TypeEnforcer(4, 4);
    for (int i = 1; i <= 300; i++) {
      due.is("answer of commit " + i, x.commit(), i);
    }
    x.stageAllow(0, 0, CLASS_FILE, 1);
    x.stageNeverallow(0, 0, CLASS_FILE, 1);
    x.commit();
    x.commit();
    x.stageClear();
    due.is("answer after refused commits", x.commit(), 301);
  }

  private static void labelsAndRingStay() {
    TypeEnforcer x = World.BUSY.make();
    x.stageClear();
    due.changes("commit", x, TypeEnforcer::commit, 2, Snapshot.ACTIVE, Snapshot.SEQ, Snapshot.VIOLATION);
    TypeEnforcer y = World.FULL.make();
    y.stageClear();
    y.stageTransition(0, 0, CLASS_FILE, 1);
    due.changes("commit", y, TypeEnforcer::commit, 2, Snapshot.ACTIVE, Snapshot.SEQ, Snapshot.VIOLATION);
  }

  private static void withoutAssertions() {
    TypeEnforcer x = new TypeEnforcer(12, 4);
    due.is("empty policy", x.commit(), 1);
    for (int type = 0; type < 12; type++) {
      x.stageMember(type, 0);
    }
    for (int i = 0; i < MAX_ALLOW; i++) {
      x.stageAllow(64, 64, i % 4, 255);
      due.is("allow rules alone", x.commit(), 2 + i);
    }
    for (int i = 0; i < MAX_TRANS; i++) {
      x.stageTransition(64, 64, i % 4, i);
      due.is("allow and transition rules", x.commit(), 26 + i);
    }
    TypeEnforcer y = World.BUSY.make();
    y.stageClear();
    y.stageAllow(5, 5, CLASS_SOCKET, 255);
    due.is("the cleared assertion forbids nothing", y.commit(), 2);
    y.stageAllow(5, 5, CLASS_SOCKET, 255);
    due.is("nor does the active policy", y.commit(), 3);
  }

  /** Asks each decision before, between and after the edits, so that a remembered one would show. */
  private static void lastCommittedPolicyDecides() {
    TypeEnforcer x = new TypeEnforcer(6, 16);
    x.spawn(0);
    x.makeObject(1, CLASS_FILE);
    x.makeObject(1, CLASS_DIR);
    decidesBy(x, 0, "no commit yet");
    int committed = 0;
    for (int round = 0; round < 9; round++) {
      int perms = (round * 91 + 44) & 255 & ~P_CREATE;
      x.stageClear();
      x.stageMember(round % 2, 0);
      decidesBy(x, committed, "a member staged");
      x.stageAllow(64, 1, CLASS_FILE, perms | 128);
      x.stageAllow(64, 1, CLASS_DIR, perms | 128);
      x.stageTransition(64, 1, CLASS_PROCESS, 3);
      decidesBy(x, committed, "rules staged");
      x.stageNeverallow(64, 1, CLASS_FILE, 128);
      due.is("refused", x.commit(), ERR_NEVERALLOW);
      decidesBy(x, committed, "a commit refused");
      x.stageClear();
      decidesBy(x, committed, "stage cleared");
      x.stageMember(round % 2, 0);
      x.stageAllow(64, 1, CLASS_FILE, perms | 1);
      x.stageAllow(64, 1, CLASS_DIR, perms | 1);
      x.stageNeverallow(64, 1, CLASS_FILE, 255 & ~(perms | 1) | P_CREATE);
      due.is("commit", x.commit(), round + 1);
      // Domain 0 is a member in the even rounds alone.
      committed = round % 2 == 0 ? perms | 1 : 0;
      decidesBy(x, committed, "committed");
      x.stageMember(0, 0);
      x.stageMember(1, 0);
      decidesBy(x, committed, "members staged after the commit");
    }
  }

  private static void decidesBy(TypeEnforcer x, int perms, String when) {
    due.is("decide on the file, " + when, x.decide(0, 1, CLASS_FILE, WHICH_ACTIVE), perms);
    due.is("decide on the directory, " + when, x.decide(0, 1, CLASS_DIR, WHICH_ACTIVE), perms);
    due.is("check, " + when, x.check(0, 0, 255), 255 & ~perms);
    due.is("exec, " + when, x.exec(0, 0), (perms & P_EXECUTE) != 0 ? 0 : ERR_DENIED);
    int total = x.audit(0, AU_TOTAL);
    due.is("create, " + when, x.create(0, 1, CLASS_DIR), ERR_DENIED);
    int lacking = (perms & P_ADD_NAME) != 0 ? P_CREATE : P_ADD_NAME;
    due.is("total after create, " + when, x.audit(0, AU_TOTAL), total + 1);
    due.holds("create tells what it lacks, " + when, holdsEntry(x, 0, 1, CLASS_DIR, lacking));
  }

  private static boolean holdsEntry(TypeEnforcer x, int src, int tgt, int cls, int perms) {
    for (int i = 0; i < x.audit(0, AU_HELD); i++) {
      if (x.audit(i, AU_SRC) == src && x.audit(i, AU_TGT) == tgt && x.audit(i, AU_CLASS) == cls
          && x.audit(i, AU_PERMS) == perms) {
        return true;
      }
    }
    return false;
  }

  /** The assertion 64,SELF and 1,71 of an active policy, looked at after each call that might break it. */
  private static void activeAssertionsHold() {
    TypeEnforcer x = someMembers();
    x.stageNeverallow(64, SELF, CLASS_FILE, 6);
    x.stageNeverallow(1, 71, CLASS_DIR, 128);
    x.stageAllow(64, 64, CLASS_FILE, 1);
    x.stageAllow(1, 3, CLASS_DIR, 128);
    x.commit();
    Call[] calls = {new Call(Op.STAGE_ALLOW, 64, 64, CLASS_FILE, 255), new Call(Op.COMMIT),
        new Call(Op.STAGE_MEMBER, 3, 7), new Call(Op.COMMIT), new Call(Op.STAGE_ALLOW, 1, 71, CLASS_DIR, 255),
        new Call(Op.COMMIT), new Call(Op.SPAWN, 1), new Call(Op.MAKE_OBJECT, 1, CLASS_FILE), new Call(Op.EXEC, 0, 0),
        new Call(Op.CHECK, 0, 0, 255), new Call(Op.STAGE_NEVERALLOW, 1, 2, CLASS_FILE, 1), new Call(Op.COMMIT)};
    for (Call call : calls) {
      int answer = call.on(x);
      due.holds(call + " answered " + answer, call.op() != Op.COMMIT || answer == ERR_NEVERALLOW);
      for (int s = 1; s <= 2; s++) {
        due.is("self after " + call, x.decide(s, s, CLASS_FILE, WHICH_ACTIVE) & 6, 0);
      }
      due.is("1,2 after " + call, x.decide(1, 2, CLASS_DIR, WHICH_ACTIVE) & 128, 0);
      due.is("1,4 after " + call, x.decide(1, 4, CLASS_DIR, WHICH_ACTIVE) & 128, 0);
      due.is("what is not forbidden, after " + call, x.decide(1, 3, CLASS_DIR, WHICH_ACTIVE), 128);
    }
  }
}
