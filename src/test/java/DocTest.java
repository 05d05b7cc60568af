import java.io.IOException;
import java.nio.file.Files;
import java.nio.file.Path;
import java.util.ArrayList;
import java.util.List;
import java.util.Map;
import java.util.Set;
import java.util.TreeMap;
import java.util.TreeSet;
import java.util.regex.Matcher;
import java.util.regex.Pattern;
import java.util.stream.Stream;

/**
 * Holds the tests against the document: every sentence that a test quotes
 * stands there under its promise, and every clause under 'What it is' and the
 * promises is quoted by a test, but for those that name nothing to try.
 */
final class DocTest {
  private static final Path DOCUMENT = Path.of("../shared/DOC.md");
  private static final Path TESTS = Path.of("src/test/java");
  private static final Pattern QUOTE =
      Pattern.compile("due\\.sentence\\((\\d+),\\s*(\"[^\"]*\"(?:\\s*\\+\\s*\"[^\"]*\")*)");
  private static final Pattern CONSTANT = Pattern.compile("\\b([A-Z_]+) = (-?\\d+)");
  /** Clauses that tell what the class is for; the promises say the same more closely. */
  private static final Set<String> NOTHING_TO_TRY = Set.of(
      "`TypeEnforcer` is a small type enforcement policy engine for mandatory access control.",
      "It holds two policies:",
      "the STAGED policy, edited by the `stage*` calls, and the ACTIVE policy, used by every access decision.",
      "`commit()` checks the staged policy against its own neverallow assertions and, if none is broken, copies it "
          + "into the active policy.",
      "Processes and objects carry type labels.",
      "Denied accesses are written to a deduplicating audit ring.",
      "a policy says which types belong to which attributes.");
  private static final Due due = new Due("DocTest");

  public static void main(String[] args) throws IOException {
    if (!Files.exists(DOCUMENT)) {
      System.out.println("DocTest: there is no " + DOCUMENT + " here to compare with; nothing was looked at");
      return;
    }
    String document = Files.readString(DOCUMENT);
    constants(document);
    Map<Integer, List<String>> clauses = clauses(document);
    Map<Integer, Set<String>> quotes = quotes();
    for (int promise : clauses.keySet()) {
      look(promise, clauses.get(promise), quotes.getOrDefault(promise, Set.of()));
    }
    due.is("parts of the document", clauses.size(), 18);
    due.holds("a test quotes a promise that is not there: " + quotes.keySet(),
        clauses.keySet().containsAll(quotes.keySet()));
    due.end();
  }

  private static void constants(String document) {
    Map<String, String> told = new TreeMap<>();
    Matcher constant = CONSTANT.matcher(document);
    while (constant.find()) {
      String before = told.put(constant.group(1), constant.group(2));
      due.holds("the document tells two values of " + constant.group(),
          before == null || before.equals(constant.group(2)));
    }
    Map<String, String> known = FaceTest.values(Face.class);
    due.holds("the document tells the constants " + told + ", the tests have " + known, told.equals(known));
  }

  private static void look(int promise, List<String> clauses, Set<String> quotes) {
    StringBuilder text = new StringBuilder();
    List<Integer> ends = new ArrayList<>();
    for (String clause : clauses) {
      text.append(clause).append(' ');
      ends.add(text.length());
    }
    Set<Integer> quoted = new TreeSet<>();
    for (String quote : quotes) {
      int at = text.indexOf(quote);
      due.holds("promise " + promise + " does not say: " + quote, at >= 0);
      for (int i = 0; at >= 0 && i < ends.size(); i++) {
        int start = i == 0 ? 0 : ends.get(i - 1);
        if (start < at + quote.length() && at < ends.get(i) - 1) {
          quoted.add(i);
        }
      }
    }
    for (int i = 0; i < clauses.size(); i++) {
      due.holds("promise " + promise + ", no test quotes: " + clauses.get(i),
          quoted.contains(i) || NOTHING_TO_TRY.contains(clauses.get(i)));
    }
  }

  /** The clauses of 'What it is' (as promise 0) and of each promise, in their order. */
  private static Map<Integer, List<String>> clauses(String document) {
    Map<Integer, List<String>> all = new TreeMap<>();
    Matcher part = Pattern.compile("(?ms)^## (What it is|Promise (\\d+):[^\n]*)\n(.*?)(?=^## |\\z)").matcher(document);
    while (part.find()) {
      int promise = part.group(2) == null ? 0 : Integer.parseInt(part.group(2));
      List<String> clauses = new ArrayList<>();
      // The constants' values are compared by themselves.
      for (String line : part.group(3).replaceFirst("(?s)Public constants:.*", "").split("\n")) {
        String text = line.replaceFirst("^(- |\\d+\\. )", "").trim();
        Stream.of(text.split("(?<=[.;:]) ")).filter(c -> !c.isEmpty()).forEach(clauses::add);
      }
      all.put(promise, clauses);
    }
    return all;
  }

  private static Map<Integer, Set<String>> quotes() throws IOException {
    Map<Integer, Set<String>> all = new TreeMap<>();
    try (Stream<Path> files = Files.list(TESTS)) {
      for (Path file : files.filter(f -> f.toString().endsWith("Test.java")).toList()) {
        Matcher quote = QUOTE.matcher(Files.readString(file));
        while (quote.find()) {
          String words = quote.group(2).replaceAll("\"\\s*\\+\\s*\"", "");
          all.computeIfAbsent(Integer.parseInt(quote.group(1)), p -> new TreeSet<>())
              .add(words.substring(1, words.length() - 1));
        }
      }
    }
    return all;
  }
}
