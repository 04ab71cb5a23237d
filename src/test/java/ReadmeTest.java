import java.io.IOException;
import java.net.URI;
import java.net.URL;
import java.net.URLClassLoader;
import java.nio.file.Files;
import java.nio.file.Path;
import java.util.ArrayList;
import java.util.List;
import java.util.regex.Matcher;
import java.util.regex.Pattern;
import javax.tools.JavaCompiler;
import javax.tools.JavaFileObject;
import javax.tools.SimpleJavaFileObject;
import javax.tools.ToolProvider;

/** The Java of README.md is compiled and run as one piece; each call answers what stands first behind it. */
public final class ReadmeTest {
  private static final Path README = Path.of("README.md");
  private static final Path OUT = Path.of("build/readme");

  private static final Pattern ANSWERED = Pattern.compile("\\s*(bench\\.\\w+\\(.*\\));\\s*//\\s*([^:]+)(:.*)?");

  /** What the page must tell: making an object, saying signs, making a room, refused calls, fractions, running the tests. */
  private static final String[] TOLD = {"new NextBench()", "bench.say(", "bench.room()", "// NO", "// UNKNOWN", "// OUTSIDE",
      "// STATE", "// FULL", "// NONE", "bench.mean(0)", "bench.mean(1)", "// LOST + OUTSIDE", "// LOST + STATE", ".ci/run"};

  private static final String CONSTANTS = "static final int UNKNOWN = -1, OUTSIDE = -2, STATE = -3, FULL = -4, NO = -5,"
      + " NONE = -6;\nstatic final long LOST = -1000000000000000000L;\n";

  private static int wrong = 0;
  private static int answers = 0;

  private ReadmeTest() {
  }

  public static void main(String[] args) throws Exception {
    String page = Files.readString(README);
    for (String part : TOLD) {
      expect(page.contains(part), "the page does not have " + part);
    }
    for (String call : Calls.KINDS) {
      expect(page.contains("`" + call + "`"), "the page does not name the call " + call);
    }
    run(javaOf(page));
    expect(answers > 0, "the page has no answers");
    System.out.println(wrong == 0 ? answers + " answers are as the page says" : wrong + " faults");
    if (wrong != 0) {
      System.exit(1);
    }
  }

  private static void expect(boolean right, String what) {
    if (!right) {
      wrong++;
      System.out.println(what);
    }
  }

  /** The page's Java calls this for each answer. */
  public static void due(String call, long got, long want) {
    answers++;
    expect(got == want, call + " answered " + got + ", the page says " + want);
  }

  private static String javaOf(String page) {
    StringBuilder code = new StringBuilder("public final class ReadmeCode {\n" + CONSTANTS + "public static void run() {\n");
    boolean inside = false;
    for (String line : page.split("\n")) {
      if (line.startsWith("```")) {
        inside = line.equals("```java");
      } else if (inside) {
        code.append(tested(line)).append('\n');
      }
    }
    return code.append("}\n}\n").toString();
  }

  private static String tested(String line) {
    Matcher answered = ANSWERED.matcher(line);
    if (!answered.matches()) {
      expect(!line.contains("//"), "no answer can be read from: " + line);
      return line;
    }
    String call = answered.group(1);
    return "ReadmeTest.due(\"" + call.replace("\"", "\\\"") + "\", " + call + ", " + answered.group(2).trim() + ");";
  }

  private static void run(String code) throws Exception {
    Files.createDirectories(OUT);
    JavaCompiler compiler = ToolProvider.getSystemJavaCompiler();
    List<String> options = List.of("-d", OUT.toString(), "-cp", System.getProperty("java.class.path"));
    List<JavaFileObject> files = new ArrayList<>(List.of(new Text(code)));
    if (!compiler.getTask(null, null, null, options, null, files).call()) {
      expect(false, "the page's Java does not compile");
      return;
    }
    try (URLClassLoader loader = new URLClassLoader(new URL[] {OUT.toUri().toURL()})) {
      loader.loadClass("ReadmeCode").getMethod("run").invoke(null);
    }
  }

  private static final class Text extends SimpleJavaFileObject {
    private final String code;

    Text(String code) {
      super(URI.create("string:///ReadmeCode.java"), Kind.SOURCE);
      this.code = code;
    }

    @Override
    public CharSequence getCharContent(boolean ignored) throws IOException {
      return code;
    }
  }
}
