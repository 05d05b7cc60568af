import java.util.Set;
import java.util.TreeSet;
import java.util.function.IntPredicate;
import java.util.function.IntUnaryOperator;
import java.util.function.ToIntFunction;

/** Counts the answers that were looked at and prints those that are not as due. */
final class Due implements Face {
  /** So many wrong answers to one sentence are printed; the rest is counted. */
  private static final int PRINTED = 20;

  private final String test;
  private String sentence = "";
  private int wrongInSentence = 0;
  private int seen = 0;
  private int wrong = 0;

  Due(String test) {
    this.test = test;
  }

  /**
   * The test of one sentence of the document, whose words are quoted as they
   * stand there; promise 0 is 'What it is'. DocTest compares the words.
   */
  void sentence(int promise, String words, Runnable looks) {
    sentence = " [" + promise + ": " + words + "]";
    wrongInSentence = 0;
    int before = seen;
    try {
      looks.run();
    } catch (RuntimeException e) {
      holds("threw " + e, false);
    }
    holds("looked at nothing", seen > before);
    if (wrongInSentence > PRINTED) {
      System.out.println(test + ": .. " + (wrongInSentence - PRINTED) + " more" + sentence);
    }
    sentence = "";
    wrongInSentence = 0;
  }

  void is(String what, long got, long want) {
    seen++;
    if (got != want) {
      tell(what + " answered " + got + ", due is " + want);
    }
  }

  void holds(String what, boolean held) {
    seen++;
    if (!held) {
      tell(what);
    }
  }

  private void tell(String what) {
    wrong++;
    wrongInSentence++;
    if (wrongInSentence <= PRINTED) {
      System.out.println(test + ": " + what + sentence);
    }
  }

  /** The call answers ERR_ARG for just the values outside the set, and else as is due. */
  void takes(String what, IntPredicate set, int due, IntUnaryOperator call) {
    for (int v : Edges.VALUES) {
      is(what + " " + v, call.applyAsInt(v), set.test(v) ? due : ERR_ARG);
    }
  }

  /** Just these parts of what can be seen from outside differ between the two looks. */
  void changed(String what, Snapshot before, Snapshot after, String... parts) {
    Set<String> got = before.partsThatDiffer(after);
    Set<String> want = new TreeSet<>(Set.of(parts));
    holds(what + " changed " + got + ", due is " + want, got.equals(want));
  }

  /** The call answers so and changes just these parts. */
  void changes(String what, TypeEnforcer x, ToIntFunction<TypeEnforcer> call, int answer, String... parts) {
    Snapshot before = Snapshot.of(x);
    is(what, call.applyAsInt(x), answer);
    changed(what, before, Snapshot.of(x), parts);
  }

  /** The call answers so in this world and changes just these parts, also in what shows only later. */
  void changes(String what, World world, ToIntFunction<TypeEnforcer> call, int answer, String... parts) {
    changes(what + " in " + world, world.make(), call, answer, parts);
    Snapshot after = Future.of(() -> {
      TypeEnforcer x = world.make();
      call.applyAsInt(x);
      return x;
    });
    Set<String> want = Set.of(parts);
    for (String part : world.future().partsThatDiffer(after)) {
      String now = part.substring(part.indexOf(Snapshot.LATER) + 1).trim();
      holds(what + " in " + world + " changed " + part, want.contains(now));
    }
  }

  /** The call answers so in this world and changes nothing, also nothing that shows only later. */
  void leaves(String what, World world, ToIntFunction<TypeEnforcer> call, int answer) {
    changes(what, world, call, answer);
  }

  /** The call changes nothing in any world, whatever it answers there. */
  void reads(Op op, int... arguments) {
    Call call = new Call(op, arguments);
    for (World world : World.values()) {
      leaves(call.toString(), world, call::on, call.on(world.make()));
    }
  }

  /** Every call of this kind with a wrong argument is refused and changes nothing, in every world. */
  void refuses(Op op) {
    for (World world : World.values()) {
      for (Call call : world.refusals(op)) {
        leaves(call.toString(), world, call::on, ERR_ARG);
      }
    }
  }

  /** The four violation fields are these. */
  void violation(String what, TypeEnforcer x, int index, int src, int tgt, int perms) {
    is(what + ": violation index", x.policyInfo(PI_VIOL_INDEX), index);
    is(what + ": violation src", x.policyInfo(PI_VIOL_SRC), src);
    is(what + ": violation tgt", x.policyInfo(PI_VIOL_TGT), tgt);
    is(what + ": violation perms", x.policyInfo(PI_VIOL_PERMS), perms);
  }

  /** The ring holds just these entries, each told as src, tgt, class, perms and count. */
  void ring(String what, TypeEnforcer x, int total, int[]... entries) {
    is(what + ": total", x.audit(0, AU_TOTAL), total);
    is(what + ": held", x.audit(0, AU_HELD), entries.length);
    for (int field = AU_SRC; field <= AU_COUNT; field++) {
      for (int i = 0; i < entries.length; i++) {
        is(what + ": field " + field + " of entry " + i, x.audit(i, field), entries[i][field]);
      }
      is(what + ": field " + field + " past the newest", x.audit(entries.length, field), ERR_ARG);
    }
  }

  void end() {
    System.out.println(test + ": " + seen + " answers, " + wrong + " not as due");
    if (wrong != 0 || seen == 0) {
      System.exit(1);
    }
  }
}
