import java.util.Arrays;

/** One call with its arguments. */
record Call(Op op, int... arguments) {
  int on(TypeEnforcer x) {
    return new RealEngine(x).call(op, arguments);
  }

  @Override
  public String toString() {
    return op + Arrays.toString(arguments);
  }
}
