import java.io.IOException;
import java.nio.file.Files;
import java.nio.file.Path;
import java.util.Map;
import java.util.Set;
import java.util.TreeMap;
import java.util.TreeSet;
import java.util.regex.Matcher;
import java.util.regex.Pattern;
import java.util.stream.Stream;

/**
 * Holds the tests against the document: what a test quotes stands there under
 * its promise, and no word under 'What it is' and the promises is left that no
 * test quotes, but for those that name nothing to try.
 */
final class DocTest {
  private static final Path DOCUMENT = Path.of("../shared/DOC.md");
  private static final Path TESTS = Path.of("src/test/java");
  private static final Pattern QUOTE =
      Pattern.compile("due\\.sentence\\((\\d+),\\s*(\"[^\"]*\"(?:\\s*\\+\\s*\"[^\"]*\")*)");
  private static final Pattern CONSTANT = Pattern.compile("\\b([A-Z_]+) = (-?\\d+)");
  private static final Pattern PART =
      Pattern.compile("(?ms)^## (What it is|Promise (\\d+):[^\n]*)\n(.*?)(?=^## |\\z)");
  /** What the class is for; the promises say the same more closely. */
  private static final Set<String> NOTHING_TO_TRY = Set.of(
      "`TypeEnforcer` is a small type enforcement policy engine for mandatory access control. It holds two policies: "
          + "the STAGED policy, edited by the `stage*` calls, and the ACTIVE policy, used by every access decision. "
          + "`commit()` checks the staged policy against its own neverallow assertions and, if none is broken, "
          + "copies it into the active policy. Processes and objects carry type labels. Denied accesses are written "
          + "to a deduplicating audit ring.",
      "a policy says which types belong to which attributes.");
  private static final Due due = new Due("DocTest");

  public static void main(String[] args) throws IOException {
    if (!Files.exists(DOCUMENT)) {
      System.out.println("DocTest: there is no " + DOCUMENT + " here to compare with; nothing was looked at");
      return;
    }
    String document = Files.readString(DOCUMENT);
    constants(document);
    Map<Integer, Set<String>> quotes = quotes();
    quotes.get(0).addAll(NOTHING_TO_TRY);
    Matcher part = PART.matcher(document);
    int parts = 0;
    while (part.find()) {
      int promise = part.group(2) == null ? 0 : Integer.parseInt(part.group(2));
      look(promise, plain(part.group(3)), quotes.getOrDefault(promise, Set.of()));
      parts++;
    }
    due.is("parts of the document", parts, 18);
    due.is("parts that tests quote", quotes.size(), 18);
    due.end();
  }

  private static void constants(String document) {
    Map<String, String> told = new TreeMap<>();
    Matcher constant = CONSTANT.matcher(document);
    while (constant.find()) {
      String before = told.put(constant.group(1), constant.group(2));
      due.holds("the document tells two values of " + constant.group(),
          before == null || before.equals(constant.group(2)));
    }
    Map<String, String> known = FaceTest.values(Face.class);
    due.holds("the document tells the constants " + told + ", the tests have " + known, told.equals(known));
  }

  /** One line without the marks of lists, and without the constants, which are compared by themselves. */
  private static String plain(String part) {
    return part.replaceFirst("(?s)Public constants:.*", "").replaceAll("(?m)^(- |\\d+\\. )", "")
        .replaceAll("\\s+", " ").trim();
  }

  private static void look(int promise, String text, Set<String> quotes) {
    StringBuilder left = new StringBuilder(text);
    for (String quote : quotes) {
      int at = text.indexOf(quote);
      due.holds("promise " + promise + " does not say: " + quote, at >= 0);
      for (int i = at; at >= 0 && i < at + quote.length(); i++) {
        left.setCharAt(i, '\n');
      }
    }
    Matcher words = Pattern.compile("[^\n]*\\w[^\n]*").matcher(left);
    boolean some = words.find();
    due.holds("promise " + promise + ", no test quotes: " + (some ? words.group() : ""), !some);
  }

  private static Map<Integer, Set<String>> quotes() throws IOException {
    Map<Integer, Set<String>> all = new TreeMap<>();
    try (Stream<Path> files = Files.list(TESTS)) {
      for (Path file : files.filter(f -> f.toString().endsWith("Test.java")).toList()) {
        Matcher quote = QUOTE.matcher(Files.readString(file));
        while (quote.find()) {
          String words = quote.group(2).replaceAll("\"\\s*\\+\\s*\"", "");
          all.computeIfAbsent(Integer.parseInt(quote.group(1)), p -> new TreeSet<>())
              .add(words.substring(1, words.length() - 1));
        }
      }
    }
    return all;
  }
}
