import java.util.Arrays;

/** Promise 13's AUDIT. That the total goes past the greatest int is in WrapTest. */
final class RingTest implements Face {
  private static final Due due = new Due("RingTest");

  public static void main(String[] args) {
    due.sentence(13, "AUDIT(s,t,c,p) means: the total increases by 1", RingTest::total);
    due.sentence(13, "if a held entry has exactly (s,t,c,p), its count increases by 1 and it keeps its place;",
        RingTest::heldEntry);
    due.sentence(13, "else, if fewer than N entries are held, the entry (s,t,c,p, count 1) is added as newest;",
        RingTest::roomLeft);
    due.sentence(13, "else the oldest entry is dropped and the new entry is added as newest.", RingTest::dropsOldest);
    due.end();
  }

  /** Nothing is allowed; process 0 is in domain 1, process 1 in 2; object t is a file of type t, object 6 a socket. */
  private static TypeEnforcer world(int size) {
    TypeEnforcer x = new TypeEnforcer(6, size);
    x.spawn(1);
    x.spawn(2);
    for (int type = 0; type < 6; type++) {
      x.makeObject(type, CLASS_FILE);
    }
    x.makeObject(0, CLASS_SOCKET);
    return x;
  }

  private static int[] entry(int perms, int count) {
    return new int[] {1, 0, CLASS_FILE, perms, count};
  }

  private static void total() {
    for (int size = Edges.MIN_AUDIT; size <= Edges.MAX_AUDIT; size++) {
      TypeEnforcer x = world(size);
      for (int n = 1; n <= 300; n++) {
        x.check(0, 0, 1 + n * n % 29);
        due.is("total", x.audit(0, AU_TOTAL), n);
      }
    }
  }

  private static void heldEntry() {
    for (int size = Edges.MIN_AUDIT; size <= Edges.MAX_AUDIT; size++) {
      countsInPlace(size, size);
      countsInPlace(size, size - 1);
      countsInPlace(size, 1);
    }
    everyPair();
    amongMany();
  }

  /** Each of the held entries is met again, as many times as its number and one. */
  private static void countsInPlace(int size, int held) {
    TypeEnforcer x = world(size);
    int[][] want = new int[held][];
    int total = 0;
    for (int i = 0; i < held; i++) {
      x.check(0, 0, i + 1);
      total++;
      want[i] = entry(i + 1, 1);
    }
    for (int i = 0; i < held; i++) {
      for (int times = 0; times <= i; times++) {
        x.check(0, 0, i + 1);
        total++;
        want[i][AU_COUNT]++;
        due.ring("size " + size + " holding " + held, x, total, want);
      }
    }
  }

  /** Of two denials the second meets the entry of the first only if all four are the same. */
  private static void everyPair() {
    for (int a = 0; a < 81; a++) {
      for (int b = 0; b < 81; b++) {
        TypeEnforcer x = new TypeEnforcer(4, 4);
        for (int i = 0; i < 9; i++) {
          x.spawn(i % 3);
          x.makeObject(i % 3, i / 3);
        }
        int[] first = deny(x, a);
        int[] second = deny(x, b);
        first[AU_COUNT] = a == b ? 2 : 1;
        due.ring("denials " + a + " and " + b, x, 2, a == b ? new int[][] {first} : new int[][] {first, second});
      }
    }
  }

  /** The denial with this number, whose digits to the base of three are its four fields. */
  private static int[] deny(TypeEnforcer x, int number) {
    int src = number / 27;
    int tgt = number / 9 % 3;
    int cls = number / 3 % 3;
    int perms = 1 + number % 3;
    x.check(src, cls * 3 + tgt, perms);
    return new int[] {src, tgt, cls, perms, 1};
  }

  private static void amongMany() {
    TypeEnforcer x = world(8);
    x.check(0, 0, P_READ);
    x.check(1, 0, P_READ);
    x.check(0, 1, P_READ);
    x.check(0, 6, P_READ);
    x.check(0, 0, P_READ | P_WRITE);
    due.is("exec is denied", x.exec(0, 0), ERR_DENIED);
    int[][] want = {{1, 0, CLASS_FILE, P_READ, 1}, {2, 0, CLASS_FILE, P_READ, 1}, {1, 1, CLASS_FILE, P_READ, 1},
        {1, 0, CLASS_SOCKET, P_READ, 1}, {1, 0, CLASS_FILE, P_READ | P_WRITE, 1},
        {1, 0, CLASS_FILE, P_EXECUTE, 1}};
    due.ring("no two alike", x, 6, want);
    x.check(0, 0, P_EXECUTE);
    want[5][AU_COUNT]++;
    due.ring("check meets the entry of exec", x, 7, want);
    x.spawn(1);
    x.makeObject(0, CLASS_FILE);
    x.check(2, 7, P_READ);
    want[0][AU_COUNT]++;
    due.ring("another process and object with the same labels", x, 8, want);
  }

  private static void roomLeft() {
    for (int size = Edges.MIN_AUDIT; size <= Edges.MAX_AUDIT; size++) {
      TypeEnforcer x = world(size);
      int[][] all = {};
      for (int n = 1; n <= size; n++) {
        x.check(0, 0, 41 - n);
        int[][] more = Arrays.copyOf(all, n);
        more[n - 1] = entry(41 - n, 1);
        due.ring("entry " + n + " of " + size, x, n, more);
        all = more;
      }
    }
  }

  private static void dropsOldest() {
    for (int size = Edges.MIN_AUDIT; size <= Edges.MAX_AUDIT; size++) {
      dropsInTurn(size);
      countedEntryIsDroppedToo(size);
    }
    everyFieldOfAnEntry();
  }

  private static void dropsInTurn(int size) {
    TypeEnforcer x = world(size);
    for (int n = 1; n <= 4 * size; n++) {
      x.check(0, 0, n);
      if (n >= size) {
        int[][] want = new int[size][];
        for (int i = 0; i < size; i++) {
          want[i] = entry(n - size + 1 + i, 1);
        }
        due.ring("denial " + n + " with size " + size, x, n, want);
      }
    }
  }

  /** The oldest goes even if its count is the highest or it was met last, and comes back with count 1. */
  private static void countedEntryIsDroppedToo(int size) {
    TypeEnforcer x = world(size);
    for (int n = 1; n <= size; n++) {
      x.check(0, 0, n);
    }
    x.check(0, 0, 1);
    x.check(0, 0, 2);
    x.check(0, 0, 1);
    x.check(0, 0, 100);
    int[][] want = new int[size][];
    for (int i = 0; i < size; i++) {
      want[i] = i == size - 1 ? entry(100, 1) : entry(i + 2, i == 0 ? 2 : 1);
    }
    due.ring("size " + size + ", the oldest was met last", x, size + 4, want);
    x.check(0, 0, 1);
    for (int i = 0; i < size; i++) {
      want[i] = i == size - 1 ? entry(1, 1) : i == size - 2 ? entry(100, 1) : entry(i + 3, 1);
    }
    due.ring("size " + size + ", the dropped one again", x, size + 5, want);
  }

  private static void everyFieldOfAnEntry() {
    TypeEnforcer x = world(4);
    x.check(0, 0, 1);
    x.check(1, 1, 2);
    x.check(0, 6, 4);
    x.check(1, 5, 8);
    x.check(0, 3, 16);
    x.check(1, 1, 2);
    due.ring("shifted", x, 6, new int[] {2, 1, 0, 2, 2}, new int[] {1, 0, 3, 4, 1}, new int[] {2, 5, 0, 8, 1},
        new int[] {1, 3, 0, 16, 1});
    x.check(1, 6, 32);
    x.check(0, 6, 4);
    due.ring("shifted twice", x, 8, new int[] {1, 0, 3, 4, 2}, new int[] {2, 5, 0, 8, 1},
        new int[] {1, 3, 0, 16, 1}, new int[] {2, 0, 3, 32, 1});
  }
}
