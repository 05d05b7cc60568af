import java.util.function.Supplier;

/**
 * What can be told of an object, also what shows only in later calls: the
 * names that rules were staged with, the assertions, and the room that is left.
 * The object is made anew for each way of going on.
 */
final class Future implements Face {
  private static final String COMMIT = "after commit", MEMBERS = "with more members",
      FORBIDDEN = "with one rule more", ROOM = "with all room taken";

  private Future() {}

  static Snapshot of(Supplier<TypeEnforcer> making) {
    Snapshot s = Snapshot.of(making.get());
    afterCommit(s, making.get());
    withMoreMembers(s, making);
    withOneRuleMore(s, making, false);
    withOneRuleMore(s, making, true);
    withAllRoomTaken(s, making.get());
    return s;
  }

  private static void afterCommit(Snapshot s, TypeEnforcer x) {
    seeCommit(s, COMMIT, x);
    s.seeAll(COMMIT, x);
  }

  /** One attribute gets every type, each in its turn, and then all of them. */
  private static void withMoreMembers(Snapshot s, Supplier<TypeEnforcer> making) {
    for (int attr = 0; attr <= NUM_ATTRS; attr++) {
      TypeEnforcer x = making.get();
      for (int a = 0; a < NUM_ATTRS; a++) {
        if (a == attr || attr == NUM_ATTRS) {
          makeAllMembers(x, a);
        }
      }
      s.seeAll(MEMBERS, x);
      seeCommit(s, MEMBERS, x);
    }
  }

  private static void withOneRuleMore(Snapshot s, Supplier<TypeEnforcer> making, boolean allMembers) {
    int types = making.get().policyInfo(PI_TYPES);
    if (making.get().policyInfo(PI_STAGED_ALLOW) == MAX_ALLOW) {
      return;
    }
    for (int place = 0; place < types * types * 4; place++) {
      TypeEnforcer x = making.get();
      for (int attr = 0; allMembers && attr < NUM_ATTRS; attr++) {
        makeAllMembers(x, attr);
      }
      x.stageAllow(place / 4 / types, place / 4 % types, place % 4, 255);
      seeCommit(s, FORBIDDEN, x);
    }
  }

  private static void seeCommit(Snapshot s, String when, TypeEnforcer x) {
    s.see(when + Snapshot.LATER + Snapshot.VIOLATION, x.commit());
    for (int field = PI_VIOL_INDEX; field <= PI_VIOL_PERMS; field++) {
      s.see(when + Snapshot.LATER + Snapshot.VIOLATION, x.policyInfo(field));
    }
  }

  private static void makeAllMembers(TypeEnforcer x, int attr) {
    int types = x.policyInfo(PI_TYPES);
    for (int type = 0; type < types; type++) {
      x.stageMember(type, attr);
    }
  }

  /** Of the ring only its size is looked at: what it holds hangs on the labels too. */
  private static void withAllRoomTaken(Snapshot s, TypeEnforcer x) {
    String when = ROOM + Snapshot.LATER;
    for (int i = 0; i <= MAX_ALLOW; i++) {
      s.see(when + Snapshot.STAGED_ALLOW, x.stageAllow(0, 0, 0, 1));
      s.see(when + Snapshot.STAGED_NEVER, x.stageNeverallow(0, 0, 0, 2));
      s.see(when + Snapshot.STAGED_TRANS, x.stageTransition(0, 0, 0, 0));
      s.see(when + Snapshot.PROCESSES, x.spawn(0));
      s.see(when + Snapshot.OBJECTS, x.makeObject(0, CLASS_FILE));
    }
    x.stageClear();
    x.commit();
    for (int perms = 1; perms <= 40; perms++) {
      x.check(0, 0, perms);
    }
    s.see(ROOM + " the ring", x.audit(0, AU_HELD));
  }
}
