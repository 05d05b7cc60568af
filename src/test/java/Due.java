import java.util.Set;
import java.util.TreeSet;

/** Counts the answers that were looked at and prints those that are not as due. */
final class Due {
  private final String test;
  private int seen = 0;
  private int wrong = 0;

  Due(String test) {
    this.test = test;
  }

  void is(String what, long got, long want) {
    holds(what + " answered " + got + ", due is " + want, got == want);
  }

  void holds(String what, boolean held) {
    seen++;
    if (!held) {
      wrong++;
      System.out.println(test + ": " + what);
    }
  }

  /** Just these parts of what can be seen from outside differ between the two looks. */
  void changed(String what, Snapshot before, Snapshot after, String... parts) {
    Set<String> got = before.partsThatDiffer(after);
    Set<String> want = new TreeSet<>(Set.of(parts));
    holds(what + " changed " + got + ", due is " + want, got.equals(want));
  }

  void end() {
    System.out.println(test + ": " + seen + " answers, " + wrong + " not as due");
    if (wrong != 0 || seen == 0) {
      System.exit(1);
    }
  }
}
