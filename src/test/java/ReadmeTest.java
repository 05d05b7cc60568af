import java.io.IOException;
import java.lang.reflect.Method;
import java.lang.reflect.Modifier;
import java.nio.file.Files;
import java.nio.file.Path;
import java.util.Map;
import java.util.regex.Matcher;
import java.util.regex.Pattern;

/** README.md: its run stands below word for word and gives the values that it tells. */
final class ReadmeTest {
  private static final Pattern VALUE = Pattern.compile("(?m)^int (\\w+) = .*; // (-?\\d+)(?=:|$)");
  private static final Due due = new Due("ReadmeTest");

  public static void main(String[] args) throws IOException {
    String readme = Files.readString(Path.of("README.md"));
    Matcher block = Pattern.compile("(?s)```java\n(.*?)```").matcher(readme);
    due.holds("README.md has no run", block.find());
    String shown = block.group(1);
    String source = Files.readString(Path.of("src/test/java/ReadmeTest.java"));
    due.holds("the run in README.md is not the one in ReadmeTest", unindented(source).contains(shown));
    values(shown, run());
    calls(readme);
    due.end();
  }

  private static String unindented(String text) {
    return text.replaceAll("(?m)^[ \t]+", "");
  }

  private static void values(String shown, Map<String, Integer> got) {
    Matcher told = VALUE.matcher(shown);
    int seen = 0;
    while (told.find()) {
      due.holds(told.group(1) + " is not looked at", got.containsKey(told.group(1)));
      due.is(told.group(1), got.getOrDefault(told.group(1), Integer.MIN_VALUE), Integer.parseInt(told.group(2)));
      seen++;
    }
    due.is("values that README.md tells", seen, got.size());
  }

  /** Every public method has its row in the table of calls. */
  private static void calls(String readme) {
    for (Method m : TypeEnforcer.class.getDeclaredMethods()) {
      if (Modifier.isPublic(m.getModifiers())) {
        due.holds("README.md has no row for " + m.getName(), readme.contains("\n| `" + m.getName() + "("));
      }
    }
  }

  private static Map<String, Integer> run() {
    int shell = 0, editor = 1, text = 2, program = 3, folder = 4;
    int readers = TypeEnforcer.ATTR_BASE + 0; // 64: the name of attribute 0 in a rule
    TypeEnforcer x = new TypeEnforcer(5, 8);

    // Stage a policy: the shell becomes the editor by running the program, and only then may write texts.
    x.stageMember(shell, 0);
    x.stageMember(editor, 0);
    x.stageAllow(readers, text, TypeEnforcer.CLASS_FILE, TypeEnforcer.P_READ);
    x.stageAllow(shell, program, TypeEnforcer.CLASS_FILE, TypeEnforcer.P_EXECUTE);
    x.stageAllow(shell, editor, TypeEnforcer.CLASS_PROCESS, TypeEnforcer.P_TRANSITION);
    x.stageAllow(editor, program, TypeEnforcer.CLASS_FILE, TypeEnforcer.P_ENTRYPOINT);
    x.stageTransition(shell, program, TypeEnforcer.CLASS_PROCESS, editor);
    x.stageAllow(editor, folder, TypeEnforcer.CLASS_DIR, TypeEnforcer.P_ADD_NAME);
    x.stageAllow(editor, text, TypeEnforcer.CLASS_FILE, TypeEnforcer.P_CREATE | TypeEnforcer.P_WRITE);
    x.stageTransition(editor, folder, TypeEnforcer.CLASS_FILE, text);
    x.stageNeverallow(shell, text, TypeEnforcer.CLASS_FILE, TypeEnforcer.P_WRITE);
    int seq = x.commit(); // 1: the policy is active

    // Let a process act under it.
    int pid = x.spawn(shell); // 0
    int bin = x.makeObject(program, TypeEnforcer.CLASS_FILE); // 0
    int dir = x.makeObject(folder, TypeEnforcer.CLASS_DIR); // 1
    int early = x.create(pid, dir, TypeEnforcer.CLASS_FILE); // -4: ERR_DENIED
    int domain = x.exec(pid, bin); // 1: the process is in the editor's domain now
    int made = x.create(pid, dir, TypeEnforcer.CLASS_FILE); // 2
    int madeType = x.label(TypeEnforcer.L_OBJ_TYPE, made); // 2: a text
    int granted = x.check(pid, made, TypeEnforcer.P_READ | TypeEnforcer.P_WRITE); // 0: nothing is missing
    int missing = x.check(pid, made, TypeEnforcer.P_READ | TypeEnforcer.P_SIGNAL); // 128: P_SIGNAL is missing

    // Look at the denials.
    int held = x.audit(0, TypeEnforcer.AU_HELD); // 2
    int oldest = x.audit(0, TypeEnforcer.AU_PERMS); // 64: P_ADD_NAME, the early create

    // A staged policy that breaks its own assertion is refused, and the active one stays.
    x.stageAllow(readers, text, TypeEnforcer.CLASS_FILE, TypeEnforcer.P_WRITE);
    int refused = x.commit(); // -3: ERR_NEVERALLOW
    int source = x.policyInfo(TypeEnforcer.PI_VIOL_SRC); // 0: the shell
    int staged = x.decide(shell, text, TypeEnforcer.CLASS_FILE, TypeEnforcer.WHICH_STAGED); // 3
    int active = x.decide(shell, text, TypeEnforcer.CLASS_FILE, TypeEnforcer.WHICH_ACTIVE); // 1
    return Map.ofEntries(Map.entry("readers", readers), Map.entry("seq", seq), Map.entry("pid", pid),
        Map.entry("bin", bin), Map.entry("dir", dir), Map.entry("early", early), Map.entry("domain", domain),
        Map.entry("made", made), Map.entry("madeType", madeType), Map.entry("granted", granted),
        Map.entry("missing", missing), Map.entry("held", held), Map.entry("oldest", oldest),
        Map.entry("refused", refused), Map.entry("source", source), Map.entry("staged", staged),
        Map.entry("active", active));
  }
}
