import java.util.function.Supplier;

/**
 * What can be told of an object, also what shows only in later calls: the
 * names that rules were staged with, the assertions, and the room that is left.
 * The object is made anew for each way of going on.
 */
final class Future implements Face {
  private static final String COMMIT = "later commit", MEMBERS = "later members",
      ASSERTIONS = "later violations", ROOM = "room left";

  private Future() {}

  static Snapshot of(Supplier<TypeEnforcer> making) {
    Snapshot s = Snapshot.of(making.get());
    laterCommit(s, making.get());
    laterMembers(s, making);
    laterViolations(s, making, false);
    laterViolations(s, making, true);
    roomLeft(s, making.get());
    return s;
  }

  private static void laterCommit(Snapshot s, TypeEnforcer x) {
    s.see(COMMIT, x.commit());
    s.seeAll(COMMIT, x);
  }

  /** One attribute gets every type, each in its turn, and then all of them. */
  private static void laterMembers(Snapshot s, Supplier<TypeEnforcer> making) {
    for (int attr = 0; attr <= NUM_ATTRS; attr++) {
      TypeEnforcer x = making.get();
      for (int a = 0; a < NUM_ATTRS; a++) {
        if (a == attr || attr == NUM_ATTRS) {
          makeAllMembers(x, a);
        }
      }
      s.seeAll(MEMBERS, x);
      seeCommit(s, MEMBERS, x);
    }
  }

  private static void laterViolations(Snapshot s, Supplier<TypeEnforcer> making, boolean allMembers) {
    int types = making.get().policyInfo(PI_TYPES);
    for (int place = 0; place < types * types * 4; place++) {
      TypeEnforcer x = making.get();
      for (int attr = 0; allMembers && attr < NUM_ATTRS; attr++) {
        makeAllMembers(x, attr);
      }
      x.stageAllow(place / 4 / types, place / 4 % types, place % 4, 255);
      seeCommit(s, ASSERTIONS, x);
    }
  }

  private static void seeCommit(Snapshot s, String part, TypeEnforcer x) {
    s.see(part, x.commit());
    for (int field = PI_VIOL_INDEX; field <= PI_VIOL_PERMS; field++) {
      s.see(part, x.policyInfo(field));
    }
  }

  private static void makeAllMembers(TypeEnforcer x, int attr) {
    int types = x.policyInfo(PI_TYPES);
    for (int type = 0; type < types; type++) {
      x.stageMember(type, attr);
    }
  }

  private static void roomLeft(Snapshot s, TypeEnforcer x) {
    for (int i = 0; i <= MAX_ALLOW; i++) {
      s.see(ROOM, x.stageAllow(0, 0, 0, 1));
      s.see(ROOM, x.stageNeverallow(0, 0, 0, 2));
      s.see(ROOM, x.stageTransition(0, 0, 0, 0));
      s.see(ROOM, x.spawn(0));
      s.see(ROOM, x.makeObject(0, CLASS_FILE));
    }
    for (int perms = 1; perms <= 40; perms++) {
      s.see(ROOM, x.check(0, 0, perms));
      s.see(ROOM, x.audit(0, AU_HELD));
    }
    s.seeAll(ROOM, x);
  }
}
