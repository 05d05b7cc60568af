import java.util.ArrayList;
import java.util.List;
import java.util.function.Supplier;

/** Objects to try a call on, made anew at each look. */
enum World implements Face {
  /** Nothing has been called on it. */
  NEW(4, 0, 0, 0, () -> new TypeEnforcer(4, 4)),
  /** Every part holds something, and the staged policy is not the active one. */
  BUSY(6, 5, 4, 2, World::busy),
  /** Every list, the processes, the objects and the ring are full, and the last commit was refused. */
  FULL(12, MAX_PROCS, MAX_OBJECTS, 4, World::full);

  final int types, procs, objects, held;
  private final Supplier<TypeEnforcer> making;
  private Snapshot future;

  World(int types, int procs, int objects, int held, Supplier<TypeEnforcer> making) {
    this.types = types;
    this.procs = procs;
    this.objects = objects;
    this.held = held;
    this.making = making;
  }

  TypeEnforcer make() {
    return making.get();
  }

  /** What can be told of it; made once, as it takes its time. */
  Snapshot future() {
    if (future == null) {
      future = Future.of(making);
    }
    return future;
  }

  /** With no process or object there is nothing in which just one of them is wrong. */
  List<Call> refusals(Op op) {
    List<Call> calls = new ArrayList<>(Refusals.of(op, types, procs, objects, held));
    if (this == NEW && (op == Op.EXEC || op == Op.CREATE || op == Op.CHECK)) {
      calls.add(new Call(op, new int[op.parameters]));
    }
    return calls;
  }

  private static TypeEnforcer busy() {
    TypeEnforcer x = new TypeEnforcer(6, 5);
    x.stageMember(1, 0);
    x.stageMember(2, 7);
    x.stageAllow(64, 2, CLASS_FILE, P_READ | P_EXECUTE);
    x.stageAllow(71, SELF, CLASS_DIR, P_CREATE | P_ADD_NAME);
    x.stageTransition(1, 2, CLASS_PROCESS, 3);
    x.stageNeverallow(5, 5, CLASS_SOCKET, P_SIGNAL);
    allowExec(x);
    x.commit();
    x.stageMember(4, 3);
    x.stageAllow(5, SELF, CLASS_SOCKET, P_SIGNAL);
    x.stageTransition(67, 0, CLASS_DIR, 5);
    x.stageNeverallow(67, 71, CLASS_PROCESS, P_TRANSITION);
    x.commit();
    for (int domain : new int[] {1, 2, 5, 0, 4}) {
      x.spawn(domain);
    }
    for (int cls = 0; cls < 4; cls++) {
      x.makeObject(2 + cls / 2, cls);
    }
    x.check(0, 0, P_WRITE);
    x.check(2, 3, 255);
    x.check(0, 0, P_WRITE);
    return x;
  }

  /** On a file of type 2, domain 5 may go to 0 but not enter there, 0 may go to 4, and 4 stays. */
  private static void allowExec(TypeEnforcer x) {
    x.stageTransition(5, 2, CLASS_PROCESS, 0);
    x.stageTransition(0, 2, CLASS_PROCESS, 4);
    x.stageAllow(5, 2, CLASS_FILE, P_EXECUTE);
    x.stageAllow(5, 0, CLASS_PROCESS, P_TRANSITION);
    x.stageAllow(0, 2, CLASS_FILE, P_EXECUTE);
    x.stageAllow(0, 4, CLASS_PROCESS, P_TRANSITION);
    x.stageAllow(4, 2, CLASS_FILE, P_EXECUTE | P_ENTRYPOINT);
  }

  private static TypeEnforcer full() {
    TypeEnforcer x = new TypeEnforcer(12, 4);
    for (int i = 0; i < MAX_ALLOW; i++) {
      x.stageMember(i % 12, i % 8);
      x.stageAllow(i % 12, 11 - i % 12, i % 4, i % 4 == CLASS_SOCKET ? P_SIGNAL + i : 1 + i);
    }
    // Each assertion would be broken by a member more, so that a change of it shows.
    int[] attributes = {64, 65, 66, 68, 69, 70};
    int[] targets = {8, 4, 0, 8, 4, 0};
    for (int i = 0; i < MAX_NEVER; i++) {
      x.stageNeverallow(attributes[i], targets[i], CLASS_SOCKET, P_SIGNAL | P_TRANSITION | P_READ);
    }
    for (int i = 0; i < MAX_TRANS; i++) {
      x.stageTransition(i, 71 - i % 8, i % 4, 11 - i);
    }
    x.commit();
    // A member that breaks the last assertion: what is staged differs from what is active.
    x.stageMember(11, 6);
    x.commit();
    for (int i = 0; i < MAX_PROCS; i++) {
      x.spawn(i);
    }
    for (int i = 0; i < MAX_OBJECTS; i++) {
      x.makeObject(i % 12, i % 4);
    }
    for (int i = 0; i < 6; i++) {
      x.check(i, i, P_SIGNAL);
    }
    return x;
  }
}
