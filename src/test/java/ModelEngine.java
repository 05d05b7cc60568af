import java.util.ArrayList;
import java.util.HashSet;
import java.util.LinkedHashMap;
import java.util.List;
import java.util.Map;
import java.util.Set;

/** The document's words again, over the library's collections, to hold the program against. */
final class ModelEngine implements Engine {
  private static final int ERR_ARG = -1, ERR_FULL = -2, ERR_NEVERALLOW = -3, ERR_DENIED = -4, NONE = -5;

  private record Rule(int src, int tgt, int cls, int value) {}

  private record Denial(int src, int tgt, int cls, int perms) {}

  private record Thing(int type, int cls) {}

  private record Member(int type, int attr) {}

  private record Policy(Set<Member> members, List<Rule> allow, List<Rule> never, List<Rule> trans) {
    static Policy empty() {
      return new Policy(new HashSet<>(), new ArrayList<>(), new ArrayList<>(), new ArrayList<>());
    }

    Policy copy() {
      return new Policy(new HashSet<>(members), new ArrayList<>(allow), new ArrayList<>(never),
          new ArrayList<>(trans));
    }

    boolean matches(int name, int x, int source) {
      return name == x
          || (name >= 64 && name <= 71 && members.contains(new Member(x, name - 64)))
          || (name == 99 && x == source);
    }

    boolean matches(Rule r, int s, int t) {
      return matches(r.src, s, s) && matches(r.tgt, t, s);
    }

    int v(int s, int t, int c) {
      return allow.stream().filter(r -> r.cls == c && matches(r, s, t)).mapToInt(Rule::value)
          .reduce(0, (p, q) -> p | q);
    }

    int transition(int s, int t, int c) {
      return trans.stream().filter(r -> r.cls == c && matches(r, s, t)).mapToInt(Rule::value)
          .findFirst().orElse(NONE);
    }
  }

  private final int types;
  private final int auditSize;
  private Policy active = Policy.empty();
  private Policy staged = Policy.empty();
  private int seq = 0;
  private int[] violation = {NONE, NONE, NONE, NONE};
  private final List<Integer> procs = new ArrayList<>();
  private final List<Thing> objects = new ArrayList<>();
  // Putting a key that is there keeps its place, as the ring asks for.
  private final Map<Denial, Integer> ring = new LinkedHashMap<>();
  private int total = 0;

  ModelEngine(int types, int auditSize) {
    this.types = Math.max(4, Math.min(12, types));
    this.auditSize = Math.max(4, Math.min(16, auditSize));
  }

  @Override
  public int call(Op op, int... a) {
    switch (op) {
      case STAGE_MEMBER: return stageMember(a[0], a[1]);
      case STAGE_ALLOW: return stagePerms(staged.allow, 24, a);
      case STAGE_NEVERALLOW: return stagePerms(staged.never, 6, a);
      case STAGE_TRANSITION: return stageTransition(a);
      case STAGE_CLEAR: staged = Policy.empty(); return 0;
      case COMMIT: return commit();
      case POLICY_INFO: return policyInfo(a[0]);
      case POLICY_QUERY: return policyQuery(a[0], a[1], a[2], a[3]);
      case DECIDE: return decide(a[0], a[1], a[2], a[3]);
      case SPAWN: return spawn(a[0]);
      case MAKE_OBJECT: return makeObject(a[0], a[1]);
      case EXEC: return exec(a[0], a[1]);
      case CREATE: return create(a[0], a[1], a[2]);
      case CHECK: return check(a[0], a[1], a[2]);
      case LABEL: return label(a[0], a[1]);
      case AUDIT: return audit(a[0], a[1]);
      default: throw new IllegalArgumentException(op.name());
    }
  }

  /** Promise 7's consequence: no active decision holds what an active assertion forbids. */
  boolean assertionsHold(Engine e) {
    for (Rule n : active.never) {
      for (int s = 0; s < types; s++) {
        for (int t = 0; t < types; t++) {
          if (active.matches(n, s, t) && (e.call(Op.DECIDE, s, t, n.cls, 0) & n.value) != 0) {
            return false;
          }
        }
      }
    }
    return true;
  }

  private boolean type(int n) {
    return n >= 0 && n < types;
  }

  private boolean typeOrAttribute(int n) {
    return type(n) || (n >= 64 && n <= 71);
  }

  private static boolean within(int n, int low, int high) {
    return n >= low && n <= high;
  }

  private int stageMember(int type, int attr) {
    if (!type(type) || !within(attr, 0, 7)) {
      return ERR_ARG;
    }
    return staged.members.add(new Member(type, attr)) ? 1 : 0;
  }

  private int stagePerms(List<Rule> list, int limit, int[] a) {
    if (!typeOrAttribute(a[0]) || !(typeOrAttribute(a[1]) || a[1] == 99) || !within(a[2], 0, 3)
        || !within(a[3], 1, 255)) {
      return ERR_ARG;
    }
    return append(list, limit, a);
  }

  private int stageTransition(int[] a) {
    if (!typeOrAttribute(a[0]) || !typeOrAttribute(a[1]) || !within(a[2], 0, 3) || !type(a[3])) {
      return ERR_ARG;
    }
    return append(staged.trans, 12, a);
  }

  private static int append(List<Rule> list, int limit, int[] a) {
    if (list.size() == limit) {
      return ERR_FULL;
    }
    list.add(new Rule(a[0], a[1], a[2], a[3]));
    return list.size() - 1;
  }

  private int commit() {
    for (int n = 0; n < staged.never.size(); n++) {
      Rule rule = staged.never.get(n);
      for (int s = 0; s < types; s++) {
        for (int t = 0; t < types; t++) {
          int broken = staged.v(s, t, rule.cls) & rule.value;
          if (staged.matches(rule, s, t) && broken != 0) {
            violation = new int[] {n, s, t, broken};
            return ERR_NEVERALLOW;
          }
        }
      }
    }
    active = staged.copy();
    violation = new int[] {NONE, NONE, NONE, NONE};
    return ++seq;
  }

  private int policyInfo(int field) {
    int[] fields = {seq, violation[0], violation[1], violation[2], violation[3], staged.allow.size(),
        staged.never.size(), staged.trans.size(), active.allow.size(), active.never.size(),
        active.trans.size(), types, procs.size(), objects.size()};
    return within(field, 0, 13) ? fields[field] : ERR_ARG;
  }

  private int policyQuery(int kind, int a, int b, int c) {
    if (!within(kind, 0, 3) || !type(a)) {
      return ERR_ARG;
    }
    Policy p = kind % 2 == 0 ? active : staged;
    if (kind < 2) {
      return !within(b, 0, 7) ? ERR_ARG : p.members.contains(new Member(a, b)) ? 1 : 0;
    }
    return !type(b) || !within(c, 0, 3) ? ERR_ARG : p.transition(a, b, c);
  }

  private int decide(int s, int t, int c, int which) {
    if (!type(s) || !type(t) || !within(c, 0, 3) || !within(which, 0, 1)) {
      return ERR_ARG;
    }
    return (which == 0 ? active : staged).v(s, t, c);
  }

  private int spawn(int type) {
    if (!type(type)) {
      return ERR_ARG;
    }
    if (procs.size() == 8) {
      return ERR_FULL;
    }
    procs.add(type);
    return procs.size() - 1;
  }

  private int makeObject(int type, int cls) {
    if (!type(type) || !within(cls, 0, 3)) {
      return ERR_ARG;
    }
    if (objects.size() == 16) {
      return ERR_FULL;
    }
    objects.add(new Thing(type, cls));
    return objects.size() - 1;
  }

  private boolean process(int pid) {
    return within(pid, 0, procs.size() - 1);
  }

  private boolean object(int oid) {
    return within(oid, 0, objects.size() - 1);
  }

  private int exec(int pid, int oid) {
    if (!process(pid) || !object(oid) || objects.get(oid).cls != 0) {
      return ERR_ARG;
    }
    int d = procs.get(pid);
    int f = objects.get(oid).type;
    if ((active.v(d, f, 0) & 4) == 0) {
      return denied(d, f, 0, 4);
    }
    int n = active.transition(d, f, 2);
    if (n == NONE || n == d) {
      return d;
    }
    if ((active.v(d, n, 2) & 16) == 0) {
      return denied(d, n, 2, 16);
    }
    if ((active.v(n, f, 0) & 32) == 0) {
      return denied(n, f, 0, 32);
    }
    procs.set(pid, n);
    return n;
  }

  private int create(int pid, int dir, int cls) {
    if (!process(pid) || !object(dir) || objects.get(dir).cls != 1
        || !Set.of(0, 1, 3).contains(cls)) {
      return ERR_ARG;
    }
    if (objects.size() == 16) {
      return ERR_FULL;
    }
    int d = procs.get(pid);
    int p = objects.get(dir).type;
    if ((active.v(d, p, 1) & 64) == 0) {
      return denied(d, p, 1, 64);
    }
    int n = active.transition(d, p, cls);
    n = n == NONE ? p : n;
    if ((active.v(d, n, cls) & 8) == 0) {
      return denied(d, n, cls, 8);
    }
    objects.add(new Thing(n, cls));
    return objects.size() - 1;
  }

  private int check(int pid, int oid, int perms) {
    if (!process(pid) || !object(oid) || !within(perms, 1, 255)) {
      return ERR_ARG;
    }
    Thing o = objects.get(oid);
    int m = perms & ~active.v(procs.get(pid), o.type, o.cls);
    if (m != 0) {
      denied(procs.get(pid), o.type, o.cls, m);
    }
    return m;
  }

  private int denied(int s, int t, int c, int p) {
    total++;
    Denial denial = new Denial(s, t, c, p);
    if (!ring.containsKey(denial) && ring.size() == auditSize) {
      ring.remove(ring.keySet().iterator().next());
    }
    ring.merge(denial, 1, Integer::sum);
    return ERR_DENIED;
  }

  private int label(int kind, int id) {
    switch (kind) {
      case 0: return process(id) ? procs.get(id) : ERR_ARG;
      case 1: return object(id) ? objects.get(id).type : ERR_ARG;
      case 2: return object(id) ? objects.get(id).cls : ERR_ARG;
      default: return ERR_ARG;
    }
  }

  private int audit(int i, int field) {
    if (field == 5) {
      return ring.size();
    }
    if (field == 6) {
      return total;
    }
    if (!within(i, 0, ring.size() - 1) || !within(field, 0, 4)) {
      return ERR_ARG;
    }
    Denial d = new ArrayList<>(ring.keySet()).get(i);
    int[] fields = {d.src, d.tgt, d.cls, d.perms, ring.get(d)};
    return fields[field];
  }
}
