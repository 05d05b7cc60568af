import java.io.IOException;
import java.lang.reflect.Constructor;
import java.lang.reflect.Field;
import java.lang.reflect.Method;
import java.lang.reflect.Modifier;
import java.nio.file.Files;
import java.nio.file.Path;
import java.util.Arrays;
import java.util.Map;
import java.util.Set;
import java.util.TreeMap;
import java.util.TreeSet;
import java.util.regex.Matcher;
import java.util.regex.Pattern;

/** The public face as the document has it, and the rules of LANGUAGE.md that can be read off. */
final class FaceTest {
  private static final Map<String, Integer> METHODS = Map.ofEntries(Map.entry("stageMember", 2),
      Map.entry("stageAllow", 4), Map.entry("stageNeverallow", 4), Map.entry("stageTransition", 4),
      Map.entry("stageClear", 0), Map.entry("commit", 0), Map.entry("policyInfo", 1),
      Map.entry("policyQuery", 4), Map.entry("decide", 4), Map.entry("spawn", 1),
      Map.entry("makeObject", 2), Map.entry("exec", 2), Map.entry("create", 3), Map.entry("check", 3),
      Map.entry("label", 2), Map.entry("audit", 2));
  private static final Set<Class<?>> NUMBERS =
      Set.of(int.class, long.class, short.class, byte.class, char.class, boolean.class);
  private static final int DEEPEST = 6;
  private static final Pattern CALL =
      Pattern.compile("\\b(?!(?:if|for|while|switch|return)\\b)(\\w+)\\s*\\(");
  private static final Due due = new Due("FaceTest");

  public static void main(String[] args) throws IOException {
    Class<?> program = TypeEnforcer.class;
    due.holds("the class is not public and final", program.getModifiers() == (Modifier.PUBLIC | Modifier.FINAL));
    due.holds("the class has a package", program.getPackageName().isEmpty());
    due.is("nested classes", program.getDeclaredClasses().length, 0);
    due.is("interfaces", program.getInterfaces().length, 0);
    constants(program);
    fields(program);
    constructors(program);
    methods(program);
    String code = withoutComments(Files.readString(Path.of("src/main/java/TypeEnforcer.java")));
    source(code);
    calls(code);
    due.end();
  }

  private static void constants(Class<?> program) {
    for (Field f : program.getFields()) {
      due.holds(f.getName() + " is not a static final int", f.getType() == int.class
          && Modifier.isStatic(f.getModifiers()) && Modifier.isFinal(f.getModifiers()));
    }
    Map<String, String> got = values(program);
    Map<String, String> want = values(Face.class);
    due.holds("public fields are " + got + ", due are " + want, got.equals(want));
  }

  /** The constants of the class or interface, by name. */
  static Map<String, String> values(Class<?> type) {
    Map<String, String> values = new TreeMap<>();
    for (Field f : type.getFields()) {
      try {
        values.put(f.getName(), String.valueOf(f.get(null)));
      } catch (ReflectiveOperationException e) {
        due.holds(f.getName() + " can't be read", false);
      }
    }
    return values;
  }

  private static void fields(Class<?> program) {
    int own = 0;
    for (Field f : program.getDeclaredFields()) {
      int m = f.getModifiers();
      due.holds(f.getName() + " is neither public nor private", Modifier.isPublic(m) || Modifier.isPrivate(m));
      if (Modifier.isStatic(m)) {
        due.holds(f.getName() + " is no constant of int or long",
            Modifier.isFinal(m) && (f.getType() == int.class || f.getType() == long.class));
      } else {
        own++;
        due.holds(f.getName() + " is not private", Modifier.isPrivate(m));
        due.holds(f.getName() + " has another type", isNumberOrArray(f.getType()));
        due.holds(f.getName() + " is an array that is not final",
            !f.getType().isArray() || Modifier.isFinal(m));
      }
    }
    due.holds(own + " fields beside the constants", own <= 40);
  }

  private static boolean isNumberOrArray(Class<?> type) {
    return NUMBERS.contains(type.isArray() ? type.getComponentType() : type);
  }

  private static void constructors(Class<?> program) {
    Constructor<?>[] all = program.getDeclaredConstructors();
    due.is("constructors", all.length, 1);
    due.holds("the constructor is not public", Modifier.isPublic(all[0].getModifiers()));
    due.holds("the constructor takes other parameters",
        Arrays.equals(all[0].getParameterTypes(), new Class<?>[] {int.class, int.class}));
  }

  private static void methods(Class<?> program) {
    Map<String, Integer> got = new TreeMap<>();
    Set<String> hidden = new TreeSet<>();
    for (Method m : program.getDeclaredMethods()) {
      due.holds(m.getName() + " throws", m.getExceptionTypes().length == 0);
      due.holds(m.getName() + " takes over seven parameters", m.getParameterCount() <= 7);
      if (Modifier.isPrivate(m.getModifiers())) {
        hidden.add(m.getName());
        due.holds(m.getName() + " answers another type",
            m.getReturnType() == void.class || NUMBERS.contains(m.getReturnType()));
        continue;
      }
      due.holds(m.getName() + " is not public or is static", Modifier.isPublic(m.getModifiers())
          && !Modifier.isStatic(m.getModifiers()));
      due.holds(m.getName() + " answers another type",
          m.getReturnType() == (m.getName().equals("stageClear") ? void.class : int.class));
      due.holds(m.getName() + " takes something other than ints",
          Arrays.stream(m.getParameterTypes()).allMatch(p -> p == int.class));
      due.holds(m.getName() + " stands twice", got.put(m.getName(), m.getParameterCount()) == null);
    }
    due.holds("public methods are " + got, got.equals(METHODS));
    hidden.retainAll(METHODS.keySet());
    due.holds("private methods bear public names: " + hidden, hidden.isEmpty());
  }

  private static String withoutComments(String text) {
    return text.replaceAll("(?s)/\\*.*?\\*/", " ").replaceAll("//[^\n]*", " ");
  }

  private static void source(String code) {
    Matcher banned = Pattern.compile("\\b(import|package|throw|throws|try|catch|synchronized|assert|instanceof|"
        + "null|float|double|String|Object|Math|Integer|Long|System|Arrays|enum|record|interface|protected|"
        + "super|volatile|transient|native)\\b|->|::|\"|@").matcher(code);
    while (banned.find()) {
      due.holds("the source has '" + banned.group() + "'", false);
    }
    Matcher made = Pattern.compile("\\bnew\\b.*").matcher(code);
    while (made.find()) {
      due.holds("not an array of constant length: " + made.group(),
          made.group().matches("new (int|long|short|byte|char|boolean)\\[[A-Z0-9_]+\\];"));
    }
    Matcher field = Pattern.compile("(?m)^(.*)\\bnew\\b").matcher(code);
    while (field.find()) {
      due.holds("made outside a field's initialiser: " + field.group(),
          field.group(1).startsWith("  private final "));
    }
    Matcher method = Pattern.compile("(?m)^  \\S.*\\{$(?s:.*?)^  \\}$").matcher(code);
    while (method.find()) {
      due.holds("a long method: " + method.group().lines().findFirst().orElse(""),
          method.group().lines().count() <= 60);
    }
  }

  /** Rules 8 and 10: no recursion, calls at most six deep, and none inside the arguments of another. */
  private static void calls(String code) {
    Map<String, Set<String>> called = new TreeMap<>();
    Matcher method = Pattern.compile("(?m)^  (?:public|private) [\\w ]*?(\\w+)\\([^)]*\\) \\{$(?s:(.*?))^  \\}$")
        .matcher(code);
    while (method.find()) {
      called.put(method.group(1), new TreeSet<>());
      Matcher call = CALL.matcher(method.group(2));
      while (call.find()) {
        called.get(method.group(1)).add(call.group(1));
        String arguments = arguments(method.group(2), call.end());
        due.holds(method.group(1) + ": a call inside " + call.group() + arguments, !CALL.matcher(arguments).find());
      }
    }
    due.is("methods and constructors whose calls were read", called.size(),
        TypeEnforcer.class.getDeclaredMethods().length + 1);
    for (String name : called.keySet()) {
      int depth = depth(called, name, DEEPEST + 1);
      due.holds(name + " leads to calls over six deep or to itself", depth <= DEEPEST);
    }
  }

  private static String arguments(String body, int from) {
    int open = 1;
    int at = from;
    while (open > 0) {
      char c = body.charAt(at++);
      open += c == '(' ? 1 : c == ')' ? -1 : 0;
    }
    return body.substring(from, at);
  }

  /** How deep the calls go, this one counted; recursion shows as the bound. */
  private static int depth(Map<String, Set<String>> called, String name, int bound) {
    int below = 0;
    for (String other : bound == 1 ? Set.<String>of() : called.getOrDefault(name, Set.of())) {
      below = Math.max(below, depth(called, other, bound - 1));
    }
    return 1 + below;
  }
}
