/** Promise 9: policyQuery. */
final class QueryTest implements Face {
  private static final Due due = new Due("QueryTest");

  public static void main(String[] args) {
    due.sentence(9, "`policyQuery(kind, a, b, c)` changes nothing.", QueryTest::changesNothing);
    due.sentence(9, "`Q_MEMBER_ACTIVE` / `Q_MEMBER_STAGED`: `a` a type (`0..T-1`), `b` an attribute (`0..7`)",
        QueryTest::memberArguments);
    due.sentence(9, "`c` ignored (any value);", QueryTest::memberIgnoresC);
    due.sentence(9, "answers 1 if `a` is a member of `b` in that policy, else 0.", QueryTest::member);
    due.sentence(9, "`Q_TRANS_ACTIVE` / `Q_TRANS_STAGED`: `a` and `b` types (`0..T-1`), `c` a class (`0..3`);",
        QueryTest::transitionArguments);
    due.sentence(9, "answers `TRANSITION_P(a,b,c)` for that policy", QueryTest::transition);
    due.sentence(9, "or `NONE` if no rule matches.", QueryTest::noTransition);
    due.sentence(9, "An unknown kind", QueryTest::unknownKind);
    due.sentence(9, "or any examined argument out of range, answers `ERR_ARG`.",
        () -> due.refuses(Op.POLICY_QUERY));
    due.end();
  }

  private static void changesNothing() {
    for (World world : World.values()) {
      due.leaves("every query", world, x -> {
        for (int place = 0; place < 6 * 14 * 14 * 6; place++) {
          x.policyQuery(place % 6 - 1, place / 6 % 14 - 1, place / 84 % 14 - 1, place / 1176 - 1);
        }
        return 0;
      }, 0);
    }
    for (int kind = 0; kind <= 3; kind++) {
      due.reads(Op.POLICY_QUERY, kind, 1, 2, CLASS_PROCESS);
    }
  }

  private static void memberArguments() {
    for (int types = Edges.MIN_TYPES; types <= Edges.MAX_TYPES; types++) {
      TypeEnforcer x = new TypeEnforcer(types, 4);
      int t = types;
      for (int kind : new int[] {Q_MEMBER_ACTIVE, Q_MEMBER_STAGED}) {
        due.takes("kind " + kind + " a of " + t, v -> Edges.isType(v, t), 0, v -> x.policyQuery(kind, v, 7, 0));
        due.takes("kind " + kind + " b of " + t, v -> Edges.within(v, 0, 7), 0,
            v -> x.policyQuery(kind, t - 1, v, 0));
      }
    }
  }

  private static void memberIgnoresC() {
    TypeEnforcer x = new TypeEnforcer(4, 4);
    x.stageMember(3, 7);
    x.commit();
    for (int kind : new int[] {Q_MEMBER_ACTIVE, Q_MEMBER_STAGED}) {
      due.takes("member, kind " + kind + " c", v -> true, 1, v -> x.policyQuery(kind, 3, 7, v));
      due.takes("no member, kind " + kind + " c", v -> true, 0, v -> x.policyQuery(kind, 2, 7, v));
      due.takes("wrong type, kind " + kind + " c", v -> false, 0, v -> x.policyQuery(kind, 4, 7, v));
      due.takes("wrong attribute, kind " + kind + " c", v -> false, 0, v -> x.policyQuery(kind, 3, 8, v));
    }
  }

  private static void member() {
    for (int place = 0; place < 12 * NUM_ATTRS; place++) {
      TypeEnforcer x = new TypeEnforcer(12, 4);
      x.stageMember(place / 8, place % 8);
      x.commit();
      x.stageClear();
      x.stageMember(11 - place / 8, 7 - place % 8);
      for (int other = 0; other < 12 * NUM_ATTRS; other++) {
        due.is("active", x.policyQuery(Q_MEMBER_ACTIVE, other / 8, other % 8, 0), other == place ? 1 : 0);
        due.is("staged", x.policyQuery(Q_MEMBER_STAGED, other / 8, other % 8, 0),
            other == 12 * NUM_ATTRS - 1 - place ? 1 : 0);
      }
    }
  }

  private static void transitionArguments() {
    for (int types = Edges.MIN_TYPES; types <= Edges.MAX_TYPES; types++) {
      TypeEnforcer x = new TypeEnforcer(types, 4);
      int t = types;
      for (int kind : new int[] {Q_TRANS_ACTIVE, Q_TRANS_STAGED}) {
        due.takes("kind " + kind + " a of " + t, v -> Edges.isType(v, t), NONE,
            v -> x.policyQuery(kind, v, t - 1, 3));
        due.takes("kind " + kind + " b of " + t, v -> Edges.isType(v, t), NONE,
            v -> x.policyQuery(kind, t - 1, v, 3));
        due.takes("kind " + kind + " c", v -> Edges.within(v, 0, 3), NONE, v -> x.policyQuery(kind, 0, 0, v));
      }
    }
  }

  /** Also a transition to type 0 and one to the source itself, which are not NONE. */
  private static void transition() {
    for (int newType = 0; newType < 6; newType++) {
      TypeEnforcer x = new TypeEnforcer(6, 4);
      x.stageMember(4, 1);
      x.stageTransition(65, 5, CLASS_SOCKET, newType);
      x.commit();
      x.stageClear();
      x.stageTransition(4, 5, CLASS_SOCKET, 5 - newType);
      due.is("active", x.policyQuery(Q_TRANS_ACTIVE, 4, 5, CLASS_SOCKET), newType);
      due.is("staged", x.policyQuery(Q_TRANS_STAGED, 4, 5, CLASS_SOCKET), 5 - newType);
    }
  }

  private static void noTransition() {
    TypeEnforcer x = new TypeEnforcer(6, 4);
    x.stageTransition(4, 5, CLASS_SOCKET, 0);
    x.commit();
    x.stageClear();
    due.is("staged, all rules gone", x.policyQuery(Q_TRANS_STAGED, 4, 5, CLASS_SOCKET), NONE);
    due.is("active, the rule", x.policyQuery(Q_TRANS_ACTIVE, 4, 5, CLASS_SOCKET), 0);
    due.is("active, other way round", x.policyQuery(Q_TRANS_ACTIVE, 5, 4, CLASS_SOCKET), NONE);
    due.is("active, other source", x.policyQuery(Q_TRANS_ACTIVE, 3, 5, CLASS_SOCKET), NONE);
    due.is("active, other target", x.policyQuery(Q_TRANS_ACTIVE, 4, 4, CLASS_SOCKET), NONE);
    due.is("active, other class", x.policyQuery(Q_TRANS_ACTIVE, 4, 5, CLASS_PROCESS), NONE);
  }

  private static void unknownKind() {
    for (int v : Edges.VALUES) {
      if (v < 0 || v > 3) {
        due.is("kind " + v, World.BUSY.make().policyQuery(v, 1, 0, 0), ERR_ARG);
        due.is("kind " + v, World.BUSY.make().policyQuery(v, 1, 2, CLASS_PROCESS), ERR_ARG);
      }
    }
    TypeEnforcer x = World.BUSY.make();
    due.is("kind 0", x.policyQuery(0, 4, 3, 0), 0);
    due.is("kind 1", x.policyQuery(1, 4, 3, 0), 1);
    due.is("kind 2", x.policyQuery(2, 4, 0, CLASS_DIR), NONE);
    due.is("kind 3", x.policyQuery(3, 4, 0, CLASS_DIR), 5);
  }
}
