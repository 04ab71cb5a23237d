import java.io.IOException;
import java.nio.file.Files;
import java.nio.file.Path;
import java.util.ArrayList;
import java.util.List;

/** "The public face", line by line: the class's own file has the same lines in the same order, and no other public ones. */
final class FaceSentences {
  private static final Path CLASS = Path.of("src/main/java/NextBench.java");

  private static final String[] START = {"public final class NextBench {",
      "public static final int UNKNOWN = -1, OUTSIDE = -2, STATE = -3, FULL = -4, NO = -5, NONE = -6;",
      "public static final long LOST = -1000000000000000000L;", "public NextBench();"};

  /** What the interface says ahead of some calls, and these calls. */
  private static final String[][] CALLS = {
      {"---- 1 rooms", "int say(int sign)", "int wipe()", "int fault()", "int room()", "int worth(int seat, int v)",
          "int bear(int v)", "int far(int seat, int other)"},
      {"---- 2 who sits where", "int may(int set)", "int takes(int set, int habit)", "int fill(int set, int habit)"},
      {"---- 3 how full", "int whole(int what)", "int ways(int n)", "long mean(int part)", "long odds(int n, int part)",
          "int first(int habit, int what)", "int game(int set, int turn, int what)", "int pairs(int what)",
          "int late(int habit, int v)"},
      {"---- 4 rows, arms, minutes", "int rows(int n, int seat)", "int longer(int k)", "int arms(int habit, int k, int what)",
          "int rests(int k)", "long minutes(int set, int habit, int minutes, int n, int part)",
          "long away(int set, int habit, int minutes, int part)"},
      {"---- 5 comers, what was seen", "int come(int habit)", "int forget()", "int sits(int comer)", "int begin()",
          "int see(int seat)", "int fits()", "int judge(int habit)", "int image(int n)", "int restore(int n)",
          "int told(int what)"}};

  private FaceSentences() {
  }

  static void test(Sentences t) throws IOException {
    List<String> lines = publicLines();
    int at = 0;
    for (String line : START) {
      t.sentence(Sentences.TERMS, line);
      t.holds(at < lines.size() && lines.get(at).equals(line), "the class has another line there");
      at++;
    }
    for (String[] group : CALLS) {
      at = calls(t, group, lines, at);
    }
    t.holds(at == lines.size(), "the class has more public lines");
  }

  private static int calls(Sentences t, String[] group, List<String> lines, int start) {
    int at = start;
    StringBuilder names = new StringBuilder();
    boolean ahead = at < lines.size() && lines.get(at).equals("// " + group[0]);
    at++;
    for (int i = 1; i < group.length; i++) {
      String line = "public " + group[i] + ";";
      t.sentence(Sentences.TERMS, line);
      t.holds(at < lines.size() && lines.get(at).equals(line), "the class has another line there");
      names.append(i == 1 ? "`" : ", `").append(group[i], group[i].indexOf(' ') + 1, group[i].indexOf('(')).append('`');
      at++;
    }
    t.sentence(Sentences.TERMS, "Ahead of the calls " + names + " the interface says: " + group[0] + ".");
    t.holds(ahead, "the class does not say so ahead of them");
    return at;
  }

  /** All lines of the class that say 'public', as the document writes them, and what is said ahead of some calls. */
  private static List<String> publicLines() throws IOException {
    List<String> lines = new ArrayList<>();
    for (String line : Files.readAllLines(CLASS)) {
      String plain = line.trim();
      if (plain.startsWith("public final class")) {
        lines.add(plain);
      } else if (plain.startsWith("public ")) {
        lines.add(plain.replaceAll(" \\{$", ";"));
      } else if (plain.matches("// -{4} \\d .*")) {
        lines.add(plain);
      }
    }
    return lines;
  }
}
