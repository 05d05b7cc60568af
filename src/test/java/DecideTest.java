/** Promise 10: decide. */
final class DecideTest implements Face {
  private static final Due due = new Due("DecideTest");

  public static void main(String[] args) {
    due.sentence(10, "`decide(src, tgt, cls, which)` answers `V_P(src,tgt,cls)`, a value in `0..255`",
        DecideTest::value);
    due.sentence(10, "where P is the active policy for `WHICH_ACTIVE` and the staged one for `WHICH_STAGED`.",
        DecideTest::policy);
    due.sentence(10, "Tests: `src` and `tgt` in `0..T-1`", DecideTest::types);
    due.sentence(10, "`cls` in `0..3`", DecideTest::classes);
    due.sentence(10, "`which` in `{0,1}`; otherwise `ERR_ARG`.", DecideTest::which);
    due.sentence(10, "No audit record is written and nothing changes.", DecideTest::changesNothing);
    due.end();
  }

  private static void value() {
    for (int perms = 1; perms <= 255; perms++) {
      TypeEnforcer x = new TypeEnforcer(4, 4);
      due.is("no rule", x.decide(3, 0, CLASS_SOCKET, WHICH_STAGED), 0);
      x.stageAllow(3, 0, CLASS_SOCKET, perms);
      due.is("perms " + perms, x.decide(3, 0, CLASS_SOCKET, WHICH_STAGED), perms);
      x.stageAllow(3, 0, CLASS_SOCKET, perms);
      due.is("perms " + perms + " twice", x.decide(3, 0, CLASS_SOCKET, WHICH_STAGED), perms);
      x.stageAllow(3, 0, CLASS_SOCKET, 255);
      due.is("all perms", x.decide(3, 0, CLASS_SOCKET, WHICH_STAGED), 255);
    }
  }

  private static void policy() {
    TypeEnforcer x = new TypeEnforcer(4, 4);
    x.stageAllow(0, 1, CLASS_FILE, 3);
    due.is("staged alone", x.decide(0, 1, CLASS_FILE, WHICH_STAGED), 3);
    due.is("not yet active", x.decide(0, 1, CLASS_FILE, WHICH_ACTIVE), 0);
    x.commit();
    x.stageClear();
    x.stageAllow(0, 1, CLASS_FILE, 12);
    due.is("staged anew", x.decide(0, 1, CLASS_FILE, WHICH_STAGED), 12);
    due.is("active as committed", x.decide(0, 1, CLASS_FILE, WHICH_ACTIVE), 3);
    x.stageNeverallow(0, 1, CLASS_FILE, 4);
    x.commit();
    due.is("active after a refused commit", x.decide(0, 1, CLASS_FILE, WHICH_ACTIVE), 3);
    due.is("staged, though forbidden", x.decide(0, 1, CLASS_FILE, WHICH_STAGED), 12);
  }

  private static void types() {
    for (int types = Edges.MIN_TYPES; types <= Edges.MAX_TYPES; types++) {
      TypeEnforcer x = new TypeEnforcer(types, 4);
      int t = types;
      for (int which : new int[] {WHICH_ACTIVE, WHICH_STAGED}) {
        due.takes("src of " + t, v -> Edges.isType(v, t), 0, v -> x.decide(v, t - 1, 3, which));
        due.takes("tgt of " + t, v -> Edges.isType(v, t), 0, v -> x.decide(t - 1, v, 3, which));
      }
    }
  }

  private static void classes() {
    for (int which : new int[] {WHICH_ACTIVE, WHICH_STAGED}) {
      TypeEnforcer x = new TypeEnforcer(12, 4);
      due.takes("cls", v -> Edges.within(v, 0, 3), 0, v -> x.decide(0, 0, v, which));
    }
  }

  private static void which() {
    TypeEnforcer x = new TypeEnforcer(12, 4);
    x.stageAllow(0, 0, CLASS_FILE, 7);
    x.commit();
    due.takes("which", v -> v == 0 || v == 1, 7, v -> x.decide(0, 0, CLASS_FILE, v));
    due.refuses(Op.DECIDE);
  }

  private static void changesNothing() {
    for (World world : World.values()) {
      int total = world.make().audit(0, AU_TOTAL);
      due.leaves("every decision", world, x -> {
        for (int place = 0; place < 14 * 14 * 6 * 4; place++) {
          x.decide(place % 14 - 1, place / 14 % 14 - 1, place / 196 % 6 - 1, place / 1176 - 1);
        }
        return x.audit(0, AU_TOTAL);
      }, total);
    }
    for (int which : new int[] {WHICH_ACTIVE, WHICH_STAGED}) {
      due.reads(Op.DECIDE, 1, 2, CLASS_FILE, which);
      due.reads(Op.DECIDE, 3, 3, CLASS_SOCKET, which);
    }
  }
}
