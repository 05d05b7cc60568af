import java.util.function.IntPredicate;

/** The edges of the arguments and of the list, for the three calls that append a rule. */
final class RuleEdges implements Face {
  private static final String[] ARGUMENTS = {"src", "tgt", "cls", "last argument"};

  private final Due due;
  private final Op op;
  private final int limit;

  RuleEdges(Due due, Op op, int limit) {
    this.due = due;
    this.op = op;
    this.limit = limit;
  }

  void source() {
    for (int types = Edges.MIN_TYPES; types <= Edges.MAX_TYPES; types++) {
      int t = types;
      takes(0, types, v -> Edges.isTypeOrAttribute(v, t));
    }
  }

  void target() {
    boolean selfToo = op != Op.STAGE_TRANSITION;
    for (int types = Edges.MIN_TYPES; types <= Edges.MAX_TYPES; types++) {
      int t = types;
      takes(1, types, v -> Edges.isTypeOrAttribute(v, t) || (selfToo && v == SELF));
    }
  }

  void cls() {
    takes(2, Edges.MIN_TYPES, v -> Edges.within(v, 0, 3));
    takes(2, Edges.MAX_TYPES, v -> Edges.within(v, 0, 3));
  }

  void perms() {
    takes(3, Edges.MIN_TYPES, v -> Edges.within(v, 1, 255));
    takes(3, Edges.MAX_TYPES, v -> Edges.within(v, 1, 255));
  }

  void newType() {
    for (int types = Edges.MIN_TYPES; types <= Edges.MAX_TYPES; types++) {
      int t = types;
      takes(3, types, v -> Edges.isType(v, t));
    }
  }

  private void takes(int place, int types, IntPredicate set) {
    due.takes(op + " of " + types + " types, " + ARGUMENTS[place], set, 0, v -> {
      int[] a = {0, 0, 0, 1};
      a[place] = v;
      return new Call(op, a).on(new TypeEnforcer(types, 4));
    });
  }

  /** Different rules, so that each call could be told from the one before. */
  private Call nth(int i) {
    return new Call(op, i % 4, i / 4 % 4, i % 3, 1 + i % 3);
  }

  /** The last place is still given, the next is not, and a wrong argument is told first. */
  void limit() {
    TypeEnforcer x = new TypeEnforcer(4, 4);
    for (int i = 0; i < limit - 1; i++) {
      nth(i).on(x);
    }
    due.is(op + " with one place left", nth(limit - 1).on(x), limit - 1);
    due.is(op + " with no place left", nth(limit).on(x), ERR_FULL);
    due.is(op + " with no place left, again", nth(0).on(x), ERR_FULL);
    for (Call call : Refusals.of(op, 4, 0, 0, 0)) {
      due.is(call + " with no place left", call.on(x), ERR_ARG);
    }
    x.commit();
    due.is(op + " with no place left after commit", nth(0).on(x), ERR_FULL);
    x.stageClear();
    due.is(op + " after stageClear", nth(0).on(x), 0);
  }

  void fullChangesNothing() {
    for (int i = 0; i < 3; i++) {
      Call call = nth(i);
      due.leaves("full " + call, World.FULL, call::on, ERR_FULL);
    }
  }

  void index() {
    TypeEnforcer x = new TypeEnforcer(4, 4);
    for (int i = 0; i < limit; i++) {
      due.is("index", nth(i).on(x), i);
    }
    for (int kept = 0; kept < limit; kept++) {
      x.stageClear();
      for (int i = 0; i < kept; i++) {
        nth(i).on(x);
        x.commit();
      }
      due.is("index after " + kept + " rules and commits", nth(kept).on(x), kept);
    }
  }

  void duplicates(int countField) {
    TypeEnforcer x = new TypeEnforcer(4, 4);
    for (int i = 0; i < limit; i++) {
      due.is("the same rule again", nth(0).on(x), i);
      due.is("count with the same rule", x.policyInfo(countField), i + 1);
    }
    due.is("the same rule past the limit", nth(0).on(x), ERR_FULL);
    due.is("another rule past the limit", nth(1).on(x), ERR_FULL);
    due.is("count at the limit", x.policyInfo(countField), limit);
  }
}
