import java.util.function.ToIntFunction;

/** The sentences under 'What it is' that name a boundary or a refused call. */
final class NameTest implements Face {
  private static final Due due = new Due("NameTest");

  public static void main(String[] args) {
    due.sentence(0, "TYPES are `0..T-1`, where T comes from the constructor.", NameTest::types);
    due.sentence(0, "There are 8 ATTRIBUTES, `0..7`;", NameTest::attributes);
    due.sentence(0, "A NAME in a rule is one of: a type `t` with `0 <= t < T`;", NameTest::typeNames);
    due.sentence(0, "`ATTR_BASE + a` (`a` in `0..7`)", NameTest::attributeNames);
    due.sentence(0, "meaning every type that is a member of attribute `a` in that same policy;",
        NameTest::attributeMeansItsMembers);
    due.sentence(0, "`SELF`, allowed only as the target of allow and neverallow rules", NameTest::selfPlaces);
    due.sentence(0, "meaning the target type equals the source type.", NameTest::selfMeansTheSource);
    due.sentence(0, "Name `n` matches type `x` when: `n < T` and `n == x`; or `n == ATTR_BASE + a` and `x` is a "
        + "member of `a`; or `n == SELF` and `x` equals the source type under consideration.",
        NameTest::whatANameMatches);
    due.sentence(0, "CLASSES are `0..3`.", NameTest::classes);
    due.sentence(0, "PERMISSIONS are bits of an 8-bit vector (`1..255` in rules).", NameTest::permissions);
    due.sentence(0, "DECISION `V_P(s,t,c)` for policy P, types s and t, class c: the bitwise OR of the perms of every "
        + "allow rule of P with `cls == c` whose src matches s and whose tgt matches t", NameTest::decisionJoinsAll);
    due.sentence(0, "0 if there is none.", NameTest::decisionWithoutARule);
    due.sentence(0, "Memberships are taken from that same policy P.", NameTest::membershipsOfThePolicy);
    due.sentence(0, "`TRANSITION_P(s,t,c)`: the newType of the lowest-index transition rule of P with `cls == c`, src "
        + "matching s and tgt matching t", NameTest::lowestIndex);
    due.sentence(0, "`NONE` if there is none.", NameTest::transitionWithoutARule);
    due.sentence(0, "A call answering `ERR_ARG` or `ERR_FULL` changes nothing and writes no audit record.",
        NameTest::refusedCallsChangeNothing);
    due.sentence(0, "A `commit()` answering `ERR_NEVERALLOW` changes only the four violation fields and writes no "
        + "audit record.", NameTest::refusedCommitChangesTheViolation);
    due.end();
  }

  /** How each place for a name answers on a new object: 0 where it takes the name. */
  private static int[] inEveryPlace(int types, int name) {
    ToIntFunction<Call> fresh = call -> call.on(new TypeEnforcer(types, 4));
    return new int[] {
        fresh.applyAsInt(new Call(Op.STAGE_ALLOW, name, 0, 0, 1)),
        fresh.applyAsInt(new Call(Op.STAGE_NEVERALLOW, name, 0, 0, 1)),
        fresh.applyAsInt(new Call(Op.STAGE_TRANSITION, name, 0, 0, 1)),
        fresh.applyAsInt(new Call(Op.STAGE_TRANSITION, 0, name, 0, 1)),
        fresh.applyAsInt(new Call(Op.STAGE_ALLOW, 0, name, 0, 1)),
        fresh.applyAsInt(new Call(Op.STAGE_NEVERALLOW, 0, name, 0, 1))};
  }

  private static void everyPlace(int types, int name, boolean taken) {
    for (int answer : inEveryPlace(types, name)) {
      due.is("name " + name + " of " + types + " types", answer, taken ? 0 : ERR_ARG);
    }
  }

  private static void typeNames() {
    for (int types = Edges.MIN_TYPES; types <= Edges.MAX_TYPES; types++) {
      for (int name = -70; name < ATTR_BASE; name++) {
        everyPlace(types, name, name >= 0 && name < types);
      }
      everyPlace(types, Edges.MIN, false);
    }
  }

  private static void attributeNames() {
    for (int types = Edges.MIN_TYPES; types <= Edges.MAX_TYPES; types++) {
      for (int name = 40; name < SELF; name++) {
        everyPlace(types, name, name >= 64 && name <= 71);
      }
    }
  }

  /** Each attribute has members of its own in each policy, as bits of a type's number tell. */
  private static boolean memberIn(int which, int type, int attr) {
    return (type * 37 + attr * 11 + which * 5) % 3 == 0;
  }

  private static void stageMembers(TypeEnforcer x, int types, int which) {
    for (int type = 0; type < types; type++) {
      for (int attr = 0; attr < NUM_ATTRS; attr++) {
        if (memberIn(which, type, attr)) {
          x.stageMember(type, attr);
        }
      }
    }
  }

  private static void attributeMeansItsMembers() {
    for (int types = Edges.MIN_TYPES; types <= Edges.MAX_TYPES; types++) {
      for (int attr = 0; attr < NUM_ATTRS; attr++) {
        TypeEnforcer x = new TypeEnforcer(types, 4);
        for (int which : new int[] {WHICH_ACTIVE, WHICH_STAGED}) {
          x.stageClear();
          stageMembers(x, types, which);
          x.stageAllow(ATTR_BASE + attr, 0, CLASS_FILE, P_READ);
          x.stageAllow(0, ATTR_BASE + attr, CLASS_DIR, P_READ);
          if (which == WHICH_ACTIVE) {
            x.commit();
          }
        }
        for (int which : new int[] {WHICH_ACTIVE, WHICH_STAGED}) {
          for (int type = 0; type < types; type++) {
            int want = memberIn(which, type, attr) ? P_READ : 0;
            due.is("attribute " + attr + " as source", x.decide(type, 0, CLASS_FILE, which), want);
            due.is("attribute " + attr + " as target", x.decide(0, type, CLASS_DIR, which), want);
          }
        }
      }
    }
  }

  private static void selfPlaces() {
    for (int types = Edges.MIN_TYPES; types <= Edges.MAX_TYPES; types++) {
      int[] answers = inEveryPlace(types, SELF);
      for (int i = 0; i < answers.length; i++) {
        due.is("SELF in place " + i, answers[i], i < 4 ? ERR_ARG : 0);
      }
      for (int name = 72; name < 140; name++) {
        if (name != SELF) {
          everyPlace(types, name, false);
        }
      }
      everyPlace(types, Edges.MAX, false);
    }
  }

  private static void selfMeansTheSource() {
    TypeEnforcer x = new TypeEnforcer(12, 4);
    for (int type = 0; type < 12; type++) {
      x.stageMember(type, 0);
    }
    x.stageAllow(64, SELF, CLASS_PROCESS, P_SIGNAL);
    x.commit();
    for (int s = 0; s < 12; s++) {
      for (int t = 0; t < 12; t++) {
        due.is("self of " + s + " on " + t, x.decide(s, t, CLASS_PROCESS, WHICH_ACTIVE), s == t ? P_SIGNAL : 0);
      }
    }
  }

  private static boolean matches(int types, int name, int type, int source) {
    if (name < types) {
      return name == type;
    }
    return name == SELF ? type == source : memberIn(WHICH_STAGED, type, name - ATTR_BASE);
  }

  private static int[] names(int types, boolean self) {
    int[] all = new int[types + NUM_ATTRS + (self ? 1 : 0)];
    for (int i = 0; i < types + NUM_ATTRS; i++) {
      all[i] = i < types ? i : ATTR_BASE + i - types;
    }
    if (self) {
      all[all.length - 1] = SELF;
    }
    return all;
  }

  /** Every name as source with every name as target, seen in all pairs of types. */
  private static void whatANameMatches() {
    for (int types : new int[] {4, 7, 12}) {
      for (int src : names(types, false)) {
        for (int tgt : names(types, true)) {
          TypeEnforcer x = new TypeEnforcer(types, 4);
          stageMembers(x, types, WHICH_STAGED);
          x.stageAllow(src, tgt, CLASS_SOCKET, P_WRITE);
          boolean transition = tgt != SELF;
          if (transition) {
            x.stageTransition(src, tgt, CLASS_SOCKET, 3);
          }
          for (int s = 0; s < types; s++) {
            for (int t = 0; t < types; t++) {
              boolean match = matches(types, src, s, s) && matches(types, tgt, t, s);
              String what = "rule " + src + "," + tgt + " on " + s + "," + t;
              due.is(what, x.decide(s, t, CLASS_SOCKET, WHICH_STAGED), match ? P_WRITE : 0);
              due.is(what, x.policyQuery(Q_TRANS_STAGED, s, t, CLASS_SOCKET), match && transition ? 3 : NONE);
            }
          }
        }
      }
    }
  }

  /** Wherever a call asks for a type. */
  private static void types() {
    for (int types = Edges.MIN_TYPES; types <= Edges.MAX_TYPES; types++) {
      int t = types;
      due.takes("type of " + t, v -> Edges.isType(v, t), 0, v -> new TypeEnforcer(t, 4).spawn(v));
      due.takes("type of " + t, v -> Edges.isType(v, t), 0, v -> new TypeEnforcer(t, 4).makeObject(v, 0));
      due.takes("type of " + t, v -> Edges.isType(v, t), 1, v -> new TypeEnforcer(t, 4).stageMember(v, 0));
      due.takes("type of " + t, v -> Edges.isType(v, t), 0, v -> new TypeEnforcer(t, 4).stageTransition(0, 0, 0, v));
      due.takes("type of " + t, v -> Edges.isType(v, t), 0, v -> new TypeEnforcer(t, 4).decide(v, v, 0, 0));
    }
  }

  private static void attributes() {
    for (int types = Edges.MIN_TYPES; types <= Edges.MAX_TYPES; types++) {
      int t = types;
      due.takes("attribute", v -> v >= 0 && v <= 7, 1, v -> new TypeEnforcer(t, 4).stageMember(0, v));
      due.takes("attribute", v -> v >= 0 && v <= 7, 0,
          v -> new TypeEnforcer(t, 4).policyQuery(Q_MEMBER_ACTIVE, 0, v, 0));
    }
  }

  private static void classes() {
    due.takes("class", v -> v >= 0 && v <= 3, 0, v -> new TypeEnforcer(12, 4).makeObject(0, v));
    due.takes("class", v -> v >= 0 && v <= 3, 0, v -> new TypeEnforcer(12, 4).decide(0, 0, v, WHICH_ACTIVE));
    for (int given = 0; given < 4; given++) {
      TypeEnforcer x = new TypeEnforcer(4, 4);
      x.stageAllow(0, 0, given, 255);
      for (int asked = 0; asked < 4; asked++) {
        due.is("class " + given + " asked as " + asked, x.decide(0, 0, asked, WHICH_STAGED),
            asked == given ? 255 : 0);
      }
    }
  }

  private static void permissions() {
    due.takes("perms", v -> v >= 1 && v <= 255, 0, v -> new TypeEnforcer(12, 4).stageAllow(0, 0, 0, v));
    due.takes("perms", v -> v >= 1 && v <= 255, 0, v -> new TypeEnforcer(12, 4).stageNeverallow(0, 0, 0, v));
    for (int perms = 1; perms <= 255; perms++) {
      TypeEnforcer x = new TypeEnforcer(4, 4);
      x.stageAllow(0, 0, 0, perms);
      due.is("perms " + perms, x.decide(0, 0, 0, WHICH_STAGED), perms);
    }
  }

  /** Rules that overlap in bits, so that a sum would show, and the last one of a full list. */
  private static void decisionJoinsAll() {
    TypeEnforcer x = new TypeEnforcer(6, 4);
    x.stageMember(1, 0);
    x.stageMember(1, 7);
    x.stageAllow(1, 1, CLASS_DIR, 3);
    x.stageAllow(64, 1, CLASS_DIR, 6);
    x.stageAllow(1, 71, CLASS_DIR, 12);
    x.stageAllow(71, SELF, CLASS_DIR, 16);
    x.stageAllow(1, 1, CLASS_FILE, 32);
    x.stageAllow(2, 1, CLASS_DIR, 64);
    x.stageAllow(1, 2, CLASS_DIR, 128);
    due.is("bits of four rules", x.decide(1, 1, CLASS_DIR, WHICH_STAGED), 31);
    for (int i = 7; i < MAX_ALLOW - 1; i++) {
      x.stageAllow(0, 0, 0, 1);
    }
    x.stageAllow(64, 71, CLASS_DIR, 160);
    due.is("bits of the last rule too", x.decide(1, 1, CLASS_DIR, WHICH_STAGED), 191);
    x.commit();
    due.is("the same when active", x.decide(1, 1, CLASS_DIR, WHICH_ACTIVE), 191);
  }

  private static void decisionWithoutARule() {
    for (int s = 0; s < 4; s++) {
      for (int t = 0; t < 4; t++) {
        for (int cls = 0; cls < 4; cls++) {
          TypeEnforcer x = new TypeEnforcer(4, 4);
          due.is("no rule at all", x.decide(s, t, cls, WHICH_STAGED), 0);
          x.stageAllow((s + 1) % 4, t, cls, 255);
          x.stageAllow(s, (t + 1) % 4, cls, 255);
          x.stageAllow(s, t, (cls + 1) % 4, 255);
          x.stageAllow(64, 71, cls, 255);
          x.stageNeverallow(s, t, cls, 255);
          x.stageTransition(s, t, cls, 3);
          x.commit();
          due.is("no rule that matches, staged", x.decide(s, t, cls, WHICH_STAGED), 0);
          due.is("no rule that matches, active", x.decide(s, t, cls, WHICH_ACTIVE), 0);
        }
      }
    }
  }

  private static void membershipsOfThePolicy() {
    TypeEnforcer x = new TypeEnforcer(6, 4);
    x.stageMember(1, 0);
    x.stageAllow(64, 64, CLASS_FILE, P_READ);
    x.commit();
    x.stageMember(2, 0);
    due.is("staged, with the new member", x.decide(2, 1, CLASS_FILE, WHICH_STAGED), P_READ);
    due.is("active, without it", x.decide(2, 1, CLASS_FILE, WHICH_ACTIVE), 0);
    x.stageClear();
    x.stageAllow(64, 64, CLASS_FILE, P_READ);
    due.is("staged, without members", x.decide(1, 1, CLASS_FILE, WHICH_STAGED), 0);
    due.is("active, with its member", x.decide(1, 1, CLASS_FILE, WHICH_ACTIVE), P_READ);
  }

  /** Of any two rules that match, the first staged is taken, wherever the others stand. */
  private static void lowestIndex() {
    for (int first = 0; first < MAX_TRANS; first++) {
      TypeEnforcer x = new TypeEnforcer(12, 4);
      x.stageMember(1, 2);
      for (int i = 0; i < MAX_TRANS; i++) {
        int src = i < first ? 5 : i % 2 == 0 ? 66 : 1;
        x.stageTransition(src, 3, CLASS_SOCKET, i);
      }
      due.is("lowest index, staged", x.policyQuery(Q_TRANS_STAGED, 1, 3, CLASS_SOCKET), first);
      x.commit();
      due.is("lowest index, active", x.policyQuery(Q_TRANS_ACTIVE, 1, 3, CLASS_SOCKET), first);
    }
  }

  private static void transitionWithoutARule() {
    for (int s = 0; s < 4; s++) {
      for (int t = 0; t < 4; t++) {
        for (int cls = 0; cls < 4; cls++) {
          TypeEnforcer x = new TypeEnforcer(4, 4);
          due.is("no rule at all", x.policyQuery(Q_TRANS_STAGED, s, t, cls), NONE);
          x.stageTransition((s + 1) % 4, t, cls, 0);
          x.stageTransition(s, (t + 1) % 4, cls, 0);
          x.stageTransition(s, t, (cls + 1) % 4, 0);
          x.stageTransition(64, 71, cls, 0);
          x.stageAllow(s, t, cls, 1);
          x.commit();
          due.is("no rule that matches, staged", x.policyQuery(Q_TRANS_STAGED, s, t, cls), NONE);
          due.is("no rule that matches, active", x.policyQuery(Q_TRANS_ACTIVE, s, t, cls), NONE);
        }
      }
    }
  }

  /** One object takes every refused call of every kind; what comes of one alone is in each promise's test. */
  private static void refusedCallsChangeNothing() {
    for (World world : World.values()) {
      TypeEnforcer x = world.make();
      int total = x.audit(0, AU_TOTAL);
      for (Op op : Op.values()) {
        for (Call call : world.refusals(op)) {
          due.is(call + " in " + world, call.on(x), ERR_ARG);
          due.is(call + " in " + world + ": total", x.audit(0, AU_TOTAL), total);
        }
      }
      due.changed("all refused calls in " + world, Snapshot.of(world.make()), Snapshot.of(x));
    }
    Call[] full = {new Call(Op.STAGE_ALLOW, 0, 0, 0, 1), new Call(Op.STAGE_NEVERALLOW, 0, 0, 0, 1),
        new Call(Op.STAGE_TRANSITION, 0, 0, 0, 1), new Call(Op.SPAWN, 0), new Call(Op.MAKE_OBJECT, 0, 0),
        new Call(Op.CREATE, 0, 1, 0)};
    for (Call call : full) {
      due.leaves(call.toString(), World.FULL, call::on, ERR_FULL);
    }
  }

  private static void refusedCommitChangesTheViolation() {
    for (World world : new World[] {World.NEW, World.BUSY}) {
      TypeEnforcer x = world.make();
      x.stageAllow(3, 2, CLASS_FILE, P_WRITE);
      x.stageNeverallow(3, 2, CLASS_FILE, P_WRITE);
      x.stageAllow(0, 1, CLASS_FILE, P_READ);
      x.stageNeverallow(0, 1, CLASS_FILE, P_READ);
      boolean refusedBefore = world == World.BUSY;
      String[] parts = refusedBefore ? new String[0] : new String[] {Snapshot.VIOLATION};
      due.changes("refused commit in " + world, x, TypeEnforcer::commit, ERR_NEVERALLOW, parts);
      if (refusedBefore) {
        due.violation("the same violation again", x, 0, 5, 5, P_SIGNAL);
      } else {
        due.violation("the first violation", x, 0, 3, 2, P_WRITE);
      }
    }
  }
}
