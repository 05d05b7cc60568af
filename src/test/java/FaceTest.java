import java.io.IOException;
import java.lang.reflect.Constructor;
import java.lang.reflect.Field;
import java.lang.reflect.Method;
import java.lang.reflect.Modifier;
import java.nio.file.Files;
import java.nio.file.Path;
import java.util.Arrays;
import java.util.Map;
import java.util.Set;
import java.util.TreeMap;
import java.util.TreeSet;
import java.util.regex.Matcher;
import java.util.regex.Pattern;

/** The public face as the document has it, and the rules of LANGUAGE.md that can be read off. */
final class FaceTest {
  private static final String CONSTANTS = "CLASS_FILE = 0, CLASS_DIR = 1, CLASS_PROCESS = 2, CLASS_SOCKET = 3, "
      + "P_READ = 1, P_WRITE = 2, P_EXECUTE = 4, P_CREATE = 8, P_TRANSITION = 16, P_ENTRYPOINT = 32, "
      + "P_ADD_NAME = 64, P_SIGNAL = 128, ATTR_BASE = 64, NUM_ATTRS = 8, SELF = 99, MAX_ALLOW = 24, "
      + "MAX_NEVER = 6, MAX_TRANS = 12, MAX_PROCS = 8, MAX_OBJECTS = 16, WHICH_ACTIVE = 0, WHICH_STAGED = 1, "
      + "ERR_ARG = -1, ERR_FULL = -2, ERR_NEVERALLOW = -3, ERR_DENIED = -4, NONE = -5, PI_SEQ = 0, "
      + "PI_VIOL_INDEX = 1, PI_VIOL_SRC = 2, PI_VIOL_TGT = 3, PI_VIOL_PERMS = 4, PI_STAGED_ALLOW = 5, "
      + "PI_STAGED_NEVER = 6, PI_STAGED_TRANS = 7, PI_ACTIVE_ALLOW = 8, PI_ACTIVE_NEVER = 9, "
      + "PI_ACTIVE_TRANS = 10, PI_TYPES = 11, PI_PROCS = 12, PI_OBJECTS = 13, Q_MEMBER_ACTIVE = 0, "
      + "Q_MEMBER_STAGED = 1, Q_TRANS_ACTIVE = 2, Q_TRANS_STAGED = 3, L_PROC_DOMAIN = 0, L_OBJ_TYPE = 1, "
      + "L_OBJ_CLASS = 2, AU_SRC = 0, AU_TGT = 1, AU_CLASS = 2, AU_PERMS = 3, AU_COUNT = 4, AU_HELD = 5, "
      + "AU_TOTAL = 6";
  private static final Map<String, Integer> METHODS = Map.ofEntries(Map.entry("stageMember", 2),
      Map.entry("stageAllow", 4), Map.entry("stageNeverallow", 4), Map.entry("stageTransition", 4),
      Map.entry("stageClear", 0), Map.entry("commit", 0), Map.entry("policyInfo", 1),
      Map.entry("policyQuery", 4), Map.entry("decide", 4), Map.entry("spawn", 1),
      Map.entry("makeObject", 2), Map.entry("exec", 2), Map.entry("create", 3), Map.entry("check", 3),
      Map.entry("label", 2), Map.entry("audit", 2));
  private static final Set<Class<?>> NUMBERS =
      Set.of(int.class, long.class, short.class, byte.class, char.class, boolean.class);
  private static final Due due = new Due("FaceTest");

  public static void main(String[] args) throws IOException {
    Class<?> program = TypeEnforcer.class;
    due.holds("the class is not public and final", program.getModifiers() == (Modifier.PUBLIC | Modifier.FINAL));
    due.holds("the class has a package", program.getPackageName().isEmpty());
    due.is("nested classes", program.getDeclaredClasses().length, 0);
    due.is("interfaces", program.getInterfaces().length, 0);
    constants(program);
    fields(program);
    constructors(program);
    methods(program);
    source(Files.readString(Path.of("src/main/java/TypeEnforcer.java")));
    due.end();
  }

  private static void constants(Class<?> program) {
    Map<String, String> want = new TreeMap<>();
    for (String constant : CONSTANTS.split(", ")) {
      String[] half = constant.split(" = ");
      want.put(half[0], half[1]);
    }
    Map<String, String> got = new TreeMap<>();
    for (Field f : program.getFields()) {
      due.holds(f.getName() + " is not a static final int", f.getType() == int.class
          && Modifier.isStatic(f.getModifiers()) && Modifier.isFinal(f.getModifiers()));
      try {
        got.put(f.getName(), String.valueOf(f.get(null)));
      } catch (ReflectiveOperationException e) {
        due.holds(f.getName() + " can't be read", false);
      }
    }
    due.holds("public fields are " + got + ", due are " + want, got.equals(want));
  }

  private static void fields(Class<?> program) {
    int own = 0;
    for (Field f : program.getDeclaredFields()) {
      int m = f.getModifiers();
      due.holds(f.getName() + " is neither public nor private", Modifier.isPublic(m) || Modifier.isPrivate(m));
      if (Modifier.isStatic(m)) {
        due.holds(f.getName() + " is no constant of int or long",
            Modifier.isFinal(m) && (f.getType() == int.class || f.getType() == long.class));
      } else {
        own++;
        due.holds(f.getName() + " is not private", Modifier.isPrivate(m));
        due.holds(f.getName() + " has another type", isNumberOrArray(f.getType()));
        due.holds(f.getName() + " is an array that is not final",
            !f.getType().isArray() || Modifier.isFinal(m));
      }
    }
    due.holds(own + " fields beside the constants", own <= 40);
  }

  private static boolean isNumberOrArray(Class<?> type) {
    return NUMBERS.contains(type.isArray() ? type.getComponentType() : type);
  }

  private static void constructors(Class<?> program) {
    Constructor<?>[] all = program.getDeclaredConstructors();
    due.is("constructors", all.length, 1);
    due.holds("the constructor is not public", Modifier.isPublic(all[0].getModifiers()));
    due.holds("the constructor takes other parameters",
        Arrays.equals(all[0].getParameterTypes(), new Class<?>[] {int.class, int.class}));
  }

  private static void methods(Class<?> program) {
    Map<String, Integer> got = new TreeMap<>();
    Set<String> hidden = new TreeSet<>();
    for (Method m : program.getDeclaredMethods()) {
      due.holds(m.getName() + " throws", m.getExceptionTypes().length == 0);
      due.holds(m.getName() + " takes over seven parameters", m.getParameterCount() <= 7);
      if (Modifier.isPrivate(m.getModifiers())) {
        hidden.add(m.getName());
        due.holds(m.getName() + " answers another type",
            m.getReturnType() == void.class || NUMBERS.contains(m.getReturnType()));
        continue;
      }
      due.holds(m.getName() + " is not public or is static", Modifier.isPublic(m.getModifiers())
          && !Modifier.isStatic(m.getModifiers()));
      due.holds(m.getName() + " answers another type",
          m.getReturnType() == (m.getName().equals("stageClear") ? void.class : int.class));
      due.holds(m.getName() + " takes something other than ints",
          Arrays.stream(m.getParameterTypes()).allMatch(p -> p == int.class));
      due.holds(m.getName() + " stands twice", got.put(m.getName(), m.getParameterCount()) == null);
    }
    due.holds("public methods are " + got, got.equals(METHODS));
    hidden.retainAll(METHODS.keySet());
    due.holds("private methods bear public names: " + hidden, hidden.isEmpty());
  }

  private static void source(String text) {
    String code = text.replaceAll("(?s)/\\*.*?\\*/", " ").replaceAll("//[^\n]*", " ");
    Matcher banned = Pattern.compile("\\b(import|package|throw|throws|try|catch|synchronized|assert|instanceof|"
        + "null|float|double|String|Object|Math|Integer|Long|System|Arrays|enum|record|interface|protected|"
        + "super|volatile|transient|native)\\b|->|::|\"|@").matcher(code);
    while (banned.find()) {
      due.holds("the source has '" + banned.group() + "'", false);
    }
    Matcher made = Pattern.compile("\\bnew\\b.*").matcher(code);
    while (made.find()) {
      due.holds("not an array of constant length: " + made.group(),
          made.group().matches("new (int|long|short|byte|char|boolean)\\[[A-Z0-9_]+\\];"));
    }
    Matcher field = Pattern.compile("(?m)^(.*)\\bnew\\b").matcher(code);
    while (field.find()) {
      due.holds("made outside a field's initialiser: " + field.group(),
          field.group(1).startsWith("  private final "));
    }
    Matcher method = Pattern.compile("(?m)^  \\S.*\\{$(?s:.*?)^  \\}$").matcher(code);
    while (method.find()) {
      due.holds("a long method: " + method.group().lines().findFirst().orElse(""),
          method.group().lines().count() <= 60);
    }
  }
}
