/** Promise 17: audit. */
final class AuditTest implements Face {
  private static final Due due = new Due("AuditTest");

  public static void main(String[] args) {
    due.sentence(17, "`audit(i, field)` changes nothing.", AuditTest::changesNothing);
    due.sentence(17, "Entries held are numbered i = 0 (oldest) .. held−1 (newest).", AuditTest::numbering);
    due.sentence(17, "Fields `AU_SRC`, `AU_TGT`, `AU_CLASS`, `AU_PERMS`, `AU_COUNT` answer that field of entry i",
        AuditTest::fields);
    due.sentence(17, "or `ERR_ARG` if i is not in `0..held-1`.", AuditTest::entriesNotHeld);
    due.sentence(17, "`AU_HELD` answers the number of entries held (`0..N`);", AuditTest::held);
    due.sentence(17, "`AU_TOTAL` answers the total number of AUDIT events ever;", AuditTest::total);
    due.sentence(17, "for both, i is ignored.", AuditTest::numberIgnored);
    due.sentence(17, "An unknown field answers `ERR_ARG`.", AuditTest::unknownField);
    due.sentence(17, "A count increase leaves entry numbering unchanged;", AuditTest::countKeepsNumbers);
    due.sentence(17, "dropping the oldest entry shifts every remaining entry down by one.", AuditTest::dropShifts);
    due.end();
  }

  /** Nothing is allowed; process p is in domain p, object o is of type o % 4 and class o / 4. */
  private static TypeEnforcer world(int size) {
    TypeEnforcer x = new TypeEnforcer(4, size);
    for (int pid = 0; pid < 4; pid++) {
      x.spawn(pid);
    }
    for (int oid = 0; oid < 16; oid++) {
      x.makeObject(oid % 4, oid / 4);
    }
    return x;
  }

  /** The n-th of many denials, each of which differs from the one before in every field. */
  private static int[] deny(TypeEnforcer x, int n) {
    int src = n % 4;
    int tgt = (n + 1 + n / 4) % 4;
    int cls = (n + 2) % 4;
    x.check(src, cls * 4 + tgt, n + 1);
    return new int[] {src, tgt, cls, n + 1, 1};
  }

  private static void changesNothing() {
    for (World world : World.values()) {
      due.leaves("every entry and field", world, x -> {
        for (int i = -2; i < 20; i++) {
          for (int field = -2; field < 10; field++) {
            x.audit(i, field);
          }
        }
        return 0;
      }, 0);
    }
    for (int field = 0; field <= 6; field++) {
      due.reads(Op.AUDIT, 1, field);
    }
    due.refuses(Op.AUDIT);
  }

  private static void numbering() {
    for (int size = Edges.MIN_AUDIT; size <= Edges.MAX_AUDIT; size++) {
      TypeEnforcer x = world(size);
      for (int n = 0; n < 3 * size; n++) {
        deny(x, n);
        int held = Math.min(n + 1, size);
        due.is("oldest", x.audit(0, AU_PERMS), n + 2 - held);
        due.is("newest", x.audit(held - 1, AU_PERMS), n + 1);
      }
    }
  }

  private static void fields() {
    for (int size = Edges.MIN_AUDIT; size <= Edges.MAX_AUDIT; size++) {
      TypeEnforcer x = world(size);
      int[][] all = new int[size][];
      for (int n = 0; n < size; n++) {
        all[n] = deny(x, n);
      }
      for (int times = 0; times < 3; times++) {
        deny(x, size - 1);
        all[size - 1][AU_COUNT]++;
      }
      due.ring("size " + size, x, size + 3, all);
    }
  }

  private static void entriesNotHeld() {
    for (int size : new int[] {4, 7, 16}) {
      TypeEnforcer x = world(size);
      for (int n = 0; n <= size + 1; n++) {
        int held = Math.min(n, size);
        for (int field = AU_SRC; field <= AU_COUNT; field++) {
          for (int i : Edges.VALUES) {
            int answer = x.audit(i, field);
            due.holds("entry " + i + " of " + held + " field " + field + " answered " + answer,
                (answer == ERR_ARG) != (i >= 0 && i < held));
          }
        }
        deny(x, n);
      }
    }
  }

  private static void held() {
    for (int size = Edges.MIN_AUDIT; size <= Edges.MAX_AUDIT; size++) {
      TypeEnforcer x = world(size);
      for (int n = 0; n < 3 * size; n++) {
        due.is("held after " + n, x.audit(0, AU_HELD), Math.min(n, size));
        deny(x, n);
        due.is("held after one more", x.audit(0, AU_HELD), Math.min(n + 1, size));
        deny(x, n);
        due.is("held after the same again", x.audit(0, AU_HELD), Math.min(n + 1, size));
      }
    }
  }

  /** Events count that met a held entry, and those whose entry is long dropped. */
  private static void total() {
    for (int size : new int[] {4, 16}) {
      TypeEnforcer x = world(size);
      for (int n = 0; n < 60; n++) {
        due.is("total", x.audit(0, AU_TOTAL), 3 * n);
        deny(x, n);
        deny(x, n);
        x.exec(0, 0);
        x.check(9, 9, 9);
        x.decide(0, 0, 0, WHICH_ACTIVE);
      }
    }
  }

  private static void numberIgnored() {
    TypeEnforcer x = world(4);
    due.takes("held of none at", v -> true, 0, v -> x.audit(v, AU_HELD));
    due.takes("total of none at", v -> true, 0, v -> x.audit(v, AU_TOTAL));
    for (int n = 0; n < 7; n++) {
      deny(x, n);
    }
    due.takes("held at", v -> true, 4, v -> x.audit(v, AU_HELD));
    due.takes("total at", v -> true, 7, v -> x.audit(v, AU_TOTAL));
  }

  private static void unknownField() {
    for (int n : new int[] {0, 1, 4, 9}) {
      TypeEnforcer x = world(4);
      for (int i = 0; i < n; i++) {
        deny(x, i);
      }
      for (int i : new int[] {Edges.MIN, -1, 0, 1, 3, 4, 16, Edges.MAX}) {
        for (int field : Edges.VALUES) {
          if (field < 0 || field > 6) {
            due.is("field " + field + " of entry " + i + " of " + n, x.audit(i, field), ERR_ARG);
          }
        }
      }
    }
  }

  private static void countKeepsNumbers() {
    for (int size = Edges.MIN_AUDIT; size <= Edges.MAX_AUDIT; size++) {
      for (int again = 0; again < size; again++) {
        TypeEnforcer x = world(size);
        int[][] all = new int[size][];
        for (int n = 0; n < size + 2; n++) {
          all[Math.max(0, n - 2)] = deny(x, n);
        }
        deny(x, again + 2);
        all[again][AU_COUNT] = 2;
        due.ring("entry " + again + " of " + size + " again", x, size + 3, all);
      }
    }
  }

  private static void dropShifts() {
    for (int size = Edges.MIN_AUDIT; size <= Edges.MAX_AUDIT; size++) {
      TypeEnforcer x = world(size);
      int[][] all = new int[size][];
      int total = 0;
      for (int n = 0; n < size; n++) {
        all[n] = deny(x, n);
        for (int times = 0; times < n % 3; times++) {
          deny(x, n);
          all[n][AU_COUNT]++;
        }
        total += all[n][AU_COUNT];
      }
      for (int n = size; n < 3 * size; n++) {
        for (int i = 1; i < size; i++) {
          all[i - 1] = all[i];
        }
        all[size - 1] = deny(x, n);
        total++;
        due.ring("drop " + n + " of size " + size, x, total, all);
      }
    }
  }
}
