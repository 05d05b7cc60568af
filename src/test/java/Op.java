/** The methods of the document's face, with the number of their parameters. */
enum Op {
  STAGE_MEMBER(2), STAGE_ALLOW(4), STAGE_NEVERALLOW(4), STAGE_TRANSITION(4), STAGE_CLEAR(0), COMMIT(0),
  POLICY_INFO(1), POLICY_QUERY(4), DECIDE(4), SPAWN(1), MAKE_OBJECT(2), EXEC(2), CREATE(3), CHECK(3),
  LABEL(2), AUDIT(2);

  final int parameters;

  Op(int parameters) {
    this.parameters = parameters;
  }
}
