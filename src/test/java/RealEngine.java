/** The program itself. */
final class RealEngine implements Engine {
  private final TypeEnforcer x;

  RealEngine(TypeEnforcer x) {
    this.x = x;
  }

  @Override
  public int call(Op op, int... a) {
    switch (op) {
      case STAGE_MEMBER: return x.stageMember(a[0], a[1]);
      case STAGE_ALLOW: return x.stageAllow(a[0], a[1], a[2], a[3]);
      case STAGE_NEVERALLOW: return x.stageNeverallow(a[0], a[1], a[2], a[3]);
      case STAGE_TRANSITION: return x.stageTransition(a[0], a[1], a[2], a[3]);
      case STAGE_CLEAR: x.stageClear(); return 0;
      case COMMIT: return x.commit();
      case POLICY_INFO: return x.policyInfo(a[0]);
      case POLICY_QUERY: return x.policyQuery(a[0], a[1], a[2], a[3]);
      case DECIDE: return x.decide(a[0], a[1], a[2], a[3]);
      case SPAWN: return x.spawn(a[0]);
      case MAKE_OBJECT: return x.makeObject(a[0], a[1]);
      case EXEC: return x.exec(a[0], a[1]);
      case CREATE: return x.create(a[0], a[1], a[2]);
      case CHECK: return x.check(a[0], a[1], a[2]);
      case LABEL: return x.label(a[0], a[1]);
      case AUDIT: return x.audit(a[0], a[1]);
      default: throw new IllegalArgumentException(op.name());
    }
  }
}
