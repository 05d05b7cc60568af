/** Lets the program and the model be called alike. */
interface Engine {
  /** The answer of the call; 0 for stageClear, which answers nothing. */
  int call(Op op, int... a);
}
