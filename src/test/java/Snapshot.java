import java.util.ArrayList;
import java.util.List;
import java.util.Map;
import java.util.Objects;
import java.util.Set;
import java.util.TreeMap;
import java.util.TreeSet;

/** All that can be seen of an engine from outside, by part. */
final class Snapshot {
  static final String TYPES = "types", SEQ = "seq", VIOLATION = "violation", ACTIVE = "active",
      STAGED_MEMBERS = "staged members", STAGED_DECISIONS = "staged decisions",
      STAGED_ALLOW = "staged allow count", STAGED_NEVER = "staged never count",
      STAGED_TRANS = "staged transition count", STAGED_TRANSITIONS = "staged transitions",
      PROCESSES = "processes", OBJECTS = "objects", AUDIT = "audit";
  /** Stands between the time of a later look and the part that was looked at. */
  static final String LATER = ": ";

  private final Map<String, List<Integer>> parts = new TreeMap<>();

  private Snapshot() {}

  static Snapshot of(TypeEnforcer x) {
    return of(new RealEngine(x));
  }

  static Snapshot of(Engine e) {
    Snapshot s = new Snapshot();
    int types = e.call(Op.POLICY_INFO, 11);
    s.see(TYPES, types);
    s.see(SEQ, e.call(Op.POLICY_INFO, 0));
    for (int field = 1; field <= 4; field++) {
      s.see(VIOLATION, e.call(Op.POLICY_INFO, field));
    }
    s.see(STAGED_ALLOW, e.call(Op.POLICY_INFO, 5));
    s.see(STAGED_NEVER, e.call(Op.POLICY_INFO, 6));
    s.see(STAGED_TRANS, e.call(Op.POLICY_INFO, 7));
    for (int field = 8; field <= 10; field++) {
      s.see(ACTIVE, e.call(Op.POLICY_INFO, field));
    }
    s.seePolicies(e, types);
    s.seeLabels(e);
    s.seeAudit(e);
    return s;
  }

  private void seePolicies(Engine e, int types) {
    for (int a = 0; a < types; a++) {
      for (int attr = 0; attr < 8; attr++) {
        see(ACTIVE, e.call(Op.POLICY_QUERY, 0, a, attr, 0));
        see(STAGED_MEMBERS, e.call(Op.POLICY_QUERY, 1, a, attr, 0));
      }
      for (int b = 0; b < types; b++) {
        for (int cls = 0; cls < 4; cls++) {
          see(ACTIVE, e.call(Op.POLICY_QUERY, 2, a, b, cls));
          see(STAGED_TRANSITIONS, e.call(Op.POLICY_QUERY, 3, a, b, cls));
          see(ACTIVE, e.call(Op.DECIDE, a, b, cls, 0));
          see(STAGED_DECISIONS, e.call(Op.DECIDE, a, b, cls, 1));
        }
      }
    }
  }

  private void seeLabels(Engine e) {
    see(PROCESSES, e.call(Op.POLICY_INFO, 12));
    for (int pid = -1; pid <= 8; pid++) {
      see(PROCESSES, e.call(Op.LABEL, 0, pid));
    }
    see(OBJECTS, e.call(Op.POLICY_INFO, 13));
    for (int oid = -1; oid <= 16; oid++) {
      see(OBJECTS, e.call(Op.LABEL, 1, oid));
      see(OBJECTS, e.call(Op.LABEL, 2, oid));
    }
  }

  private void seeAudit(Engine e) {
    see(AUDIT, e.call(Op.AUDIT, 0, 5));
    see(AUDIT, e.call(Op.AUDIT, 0, 6));
    for (int i = -1; i <= 16; i++) {
      for (int field = 0; field <= 4; field++) {
        see(AUDIT, e.call(Op.AUDIT, i, field));
      }
    }
  }

  void see(String part, int answer) {
    parts.computeIfAbsent(part, p -> new ArrayList<>()).add(answer);
  }

  /** All that can be seen of the object later, each part for itself. */
  void seeAll(String when, TypeEnforcer x) {
    of(x).parts.forEach((part, answers) ->
        parts.computeIfAbsent(when + LATER + part, p -> new ArrayList<>()).addAll(answers));
  }

  Set<String> partsThatDiffer(Snapshot other) {
    Set<String> differ = new TreeSet<>(parts.keySet());
    differ.addAll(other.parts.keySet());
    differ.removeIf(part -> Objects.equals(parts.get(part), other.parts.get(part)));
    return differ;
  }
}
