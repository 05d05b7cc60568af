/** Promise 2: stageMember. */
final class MemberTest implements Face {
  private static final Due due = new Due("MemberTest");

  public static void main(String[] args) {
    due.sentence(2, "`stageMember(type, attr)` makes type `type` a member of attribute `attr` in the STAGED policy.",
        MemberTest::makesMember);
    due.sentence(2, "Tests in order: `type` in `0..T-1`", MemberTest::types);
    due.sentence(2, "then `attr` in `0..7`", MemberTest::attributes);
    due.sentence(2, "failing either answers `ERR_ARG` and changes nothing.", () -> due.refuses(Op.STAGE_MEMBER));
    due.sentence(2, "Otherwise it answers 1 if `type` was not a member of `attr` before (it now is)",
        MemberTest::newMember);
    due.sentence(2, "or 0 if it already was (no change).", MemberTest::sameMember);
    due.sentence(2, "The active policy, rule lists, seq, violation fields, processes, objects and audit ring are not "
        + "changed.", MemberTest::nothingElse);
    due.sentence(2, "Membership of other types and other attributes is not changed.", MemberTest::othersStay);
    due.end();
  }

  private static void makesMember() {
    TypeEnforcer x = new TypeEnforcer(6, 4);
    x.stageAllow(67, 2, CLASS_FILE, P_READ);
    x.stageMember(4, 3);
    due.is("staged member", x.policyQuery(Q_MEMBER_STAGED, 4, 3, 0), 1);
    due.is("active member", x.policyQuery(Q_MEMBER_ACTIVE, 4, 3, 0), 0);
    due.is("rule staged before the member", x.decide(4, 2, CLASS_FILE, WHICH_STAGED), P_READ);
    x.commit();
    due.is("active member after commit", x.policyQuery(Q_MEMBER_ACTIVE, 4, 3, 0), 1);
  }

  private static void types() {
    for (int types = Edges.MIN_TYPES; types <= Edges.MAX_TYPES; types++) {
      int t = types;
      due.takes("type of " + types, v -> Edges.isType(v, t), 1, v -> new TypeEnforcer(t, 4).stageMember(v, 7));
    }
  }

  private static void attributes() {
    for (int types = Edges.MIN_TYPES; types <= Edges.MAX_TYPES; types++) {
      int t = types;
      due.takes("attr with " + types + " types", v -> Edges.within(v, 0, 7), 1,
          v -> new TypeEnforcer(t, 4).stageMember(t - 1, v));
    }
  }

  private static void newMember() {
    for (int types = Edges.MIN_TYPES; types <= Edges.MAX_TYPES; types++) {
      TypeEnforcer x = new TypeEnforcer(types, 4);
      for (int type = 0; type < types; type++) {
        for (int attr = 0; attr < NUM_ATTRS; attr++) {
          due.is("not yet " + type + "," + attr, x.policyQuery(Q_MEMBER_STAGED, type, attr, 0), 0);
          due.is("new " + type + "," + attr, x.stageMember(type, attr), 1);
          due.is("now " + type + "," + attr, x.policyQuery(Q_MEMBER_STAGED, type, attr, 0), 1);
        }
      }
      x.commit();
      x.stageClear();
      due.is("member of the active policy alone", x.stageMember(types - 1, 7), 1);
    }
  }

  private static void sameMember() {
    for (int types = Edges.MIN_TYPES; types <= Edges.MAX_TYPES; types++) {
      TypeEnforcer x = new TypeEnforcer(types, 4);
      for (int type = 0; type < types; type++) {
        for (int attr = 0; attr < NUM_ATTRS; attr++) {
          x.stageMember(type, attr);
          due.is("again " + type + "," + attr, x.stageMember(type, attr), 0);
          due.is("still " + type + "," + attr, x.policyQuery(Q_MEMBER_STAGED, type, attr, 0), 1);
        }
      }
    }
    due.leaves("member again", World.BUSY, x -> x.stageMember(4, 3), 0);
    due.leaves("member again", World.FULL, x -> x.stageMember(11, 3), 0);
  }

  private static void nothingElse() {
    due.changes("new member", World.BUSY.make(), x -> x.stageMember(0, 6), 1, Snapshot.STAGED_MEMBERS);
    due.changes("new member that a transition rule names", World.FULL.make(), x -> x.stageMember(0, 5), 1,
        Snapshot.STAGED_MEMBERS, Snapshot.STAGED_TRANSITIONS);
    due.changes("new member", World.NEW.make(), x -> x.stageMember(3, 7), 1, Snapshot.STAGED_MEMBERS);
  }

  private static void othersStay() {
    for (int types : new int[] {4, 12}) {
      for (int place = 0; place < types * NUM_ATTRS; place++) {
        TypeEnforcer one = new TypeEnforcer(types, 4);
        one.stageMember(place / NUM_ATTRS, place % NUM_ATTRS);
        TypeEnforcer allButOne = new TypeEnforcer(types, 4);
        for (int other = 0; other < types * NUM_ATTRS; other++) {
          if (other != place) {
            allButOne.stageMember(other / NUM_ATTRS, other % NUM_ATTRS);
          }
        }
        for (int other = 0; other < types * NUM_ATTRS; other++) {
          int type = other / NUM_ATTRS;
          int attr = other % NUM_ATTRS;
          due.is("one alone", one.policyQuery(Q_MEMBER_STAGED, type, attr, 0), other == place ? 1 : 0);
          due.is("all but one", allButOne.policyQuery(Q_MEMBER_STAGED, type, attr, 0), other == place ? 0 : 1);
        }
      }
    }
  }
}
