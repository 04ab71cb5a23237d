import java.io.IOException;
import java.nio.file.Files;
import java.nio.file.Path;
import java.util.ArrayList;
import java.util.List;
import java.util.TreeMap;
import java.util.regex.Matcher;
import java.util.regex.Pattern;

/**
 * Answers are held against the document sentence by sentence: each test quotes the one that it tests, and what no test
 * quotes is told in the end, so that no sentence is passed over.
 */
final class Sentences {
  /** All that stands ahead of the promises goes as number 0. */
  static final int TERMS = 0, PROMISES = 35;

  private static final Path DOCUMENT = Path.of("../shared/DOC.md");

  private final TreeMap<Integer, String> texts = new TreeMap<>();
  private final TreeMap<Integer, boolean[]> quoted = new TreeMap<>();
  private int promise;
  private String sentence = "";
  private int answers = 1;
  private int tests;
  private int wrong;

  Sentences() throws IOException {
    if (!Files.isReadable(DOCUMENT)) {
      System.out.println("no document at " + DOCUMENT + ": what is quoted is not looked up");
      return;
    }
    String document = Files.readString(DOCUMENT);
    // of what is not promised only this can be tested: that there is no more
    keep(TERMS, between(document, "The next bench but one", "## The public face") + " "
        + between(document, "public final class", "## Terms") + " "
        + between(document, "Calls that are refused", "## Promise 1:") + " "
        + between(document, "Nothing is promised beyond", ", and nothing about"));
    for (int number = 1; number <= PROMISES; number++) {
      String text = between(document, "## Promise " + number + ":", "\n## ");
      keep(number, text.substring(text.indexOf("`: ") + 3));
    }
  }

  private static String between(String text, String start, String end) {
    int from = text.indexOf(start);
    int to = text.indexOf(end, from + start.length());
    if (from < 0 || to < 0) {
      throw new IllegalStateException("the document has no part from " + start + " to " + end);
    }
    return text.substring(from, to);
  }

  private void keep(int number, String text) {
    String plain = text.replaceAll("```\\w*", " ").replaceAll("={8} \\d", " ").replaceAll("\\s+", " ").trim();
    texts.put(number, plain);
    quoted.put(number, new boolean[plain.length()]);
  }

  /** A test of one sentence begins; it is one of the promise, or of the terms that it rests on. */
  void sentence(int number, String quote) {
    endTest();
    promise = number;
    sentence = quote;
    answers = 0;
    tests++;
    if (!texts.isEmpty() && !mark(number, quote) && !mark(TERMS, quote)) {
      fault("the document does not say so");
    }
  }

  private boolean mark(int number, String quote) {
    String text = texts.get(number);
    int from = text.indexOf(quote);
    for (int at = from; at >= 0 && at < from + quote.length(); at++) {
      quoted.get(number)[at] = true;
    }
    return from >= 0;
  }

  /** What no call tells, but a look at the class. */
  void holds(boolean right, String what) {
    answers++;
    if (!right) {
      fault(what);
    }
  }

  /** The answers of some calls, made in this order. */
  Answers got(long... answersGot) {
    return new Answers(answersGot);
  }

  final class Answers {
    private final long[] got;

    Answers(long[] got) {
      this.got = got;
    }

    void due(long... want) {
      if (got.length != want.length) {
        fault(got.length + " answers, " + want.length + " are due");
      }
      for (int i = 0; i < Math.min(got.length, want.length); i++) {
        answers++;
        if (got[i] != want[i]) {
          fault("answer " + i + " is " + got[i] + ", due is " + want[i]);
        }
      }
    }

    void allDue(long want) {
      for (long one : got) {
        answers++;
        if (one != want) {
          fault("an answer is " + one + ", due is " + want);
        }
      }
    }
  }

  void fault(String what) {
    wrong++;
    StackTraceElement line = caller();
    System.out.println("promise " + promise + ", \"" + sentence + "\", " + line.getFileName() + ":" + line.getLineNumber()
        + ": " + what);
  }

  private static StackTraceElement caller() {
    StackTraceElement[] open = new Throwable().getStackTrace();
    for (StackTraceElement one : open) {
      if (!one.getClassName().startsWith("Sentences")) {
        return one;
      }
    }
    return open[0];
  }

  private void endTest() {
    if (answers == 0) {
      fault("the test looks at no answer");
    }
  }

  /** How many faults there were; sentences that no test quotes are faults too. */
  int end() {
    endTest();
    for (int number : texts.keySet()) {
      for (String left : leftOut(number)) {
        wrong++;
        System.out.println((number == TERMS ? "terms" : "promise " + number) + ": no test for \"" + left + "\"");
      }
    }
    System.out.println(wrong == 0 ? tests + " sentences hold" : wrong + " faults");
    return wrong;
  }

  private List<String> leftOut(int number) {
    boolean[] marks = quoted.get(number);
    StringBuilder rest = new StringBuilder(texts.get(number));
    for (int at = 0; at < marks.length; at++) {
      if (marks[at]) {
        rest.setCharAt(at, '\n');
      }
    }
    List<String> left = new ArrayList<>();
    Matcher words = Pattern.compile("[^\n]*\\w[^\n]*").matcher(rest);
    while (words.find()) {
      left.add(words.group().trim());
    }
    return left;
  }
}
