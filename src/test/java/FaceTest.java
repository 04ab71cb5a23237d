import com.sun.management.ThreadMXBean;
import java.lang.management.ManagementFactory;
import java.lang.reflect.Constructor;
import java.lang.reflect.Field;
import java.lang.reflect.Method;
import java.lang.reflect.Modifier;
import java.nio.file.Files;
import java.nio.file.Path;
import java.util.Arrays;
import java.util.Set;
import java.util.TreeSet;
import java.util.regex.Matcher;
import java.util.regex.Pattern;

/** The face is the document's and no more; the file keeps to LANGUAGE.md where a look can tell; calls make next to nothing. */
public final class FaceTest {
  private static final String[] FACE = {"int say(int)", "int wipe()", "int fault()", "int room()", "int worth(int,int)",
      "int bear(int)", "int far(int,int)", "int may(int)", "int takes(int,int)", "int fill(int,int)", "int whole(int)",
      "int ways(int)", "long mean(int)", "long odds(int,int)", "int first(int,int)", "int game(int,int,int)",
      "int pairs(int)", "int late(int,int)", "int rows(int,int)", "int longer(int)", "int arms(int,int,int)",
      "int rests(int)", "long minutes(int,int,int,int,int)", "long away(int,int,int,int)", "int come(int)",
      "int forget()", "int sits(int)", "int begin()", "int see(int)", "int fits()", "int judge(int)", "int image(int)",
      "int restore(int)", "int told(int)"};
  private static final String[] BANNED = {"\\bthrow\\b", "\\btry\\b", "\\bcatch\\b", "\\bassert\\b", "\\bsynchronized\\b",
      "->", "::", "\\bRandom\\b", "\\bcurrentTimeMillis\\b", "\\bnanoTime\\b", "\\bThread\\b", "\\w+Exact\\b",
      "\\bpackage\\b", "\\bstatic\\s*\\{"};

  private static int wrong = 0;

  private static void expect(boolean right, String what) {
    if (!right) {
      wrong++;
      System.out.println(what);
    }
  }

  public static void main(String[] args) throws Exception {
    members();
    nestedClasses();
    source();
    whatCallsMake();
    System.out.println(wrong == 0 ? "the face is as due" : wrong + " faults");
    if (wrong != 0) {
      System.exit(1);
    }
  }

  private static void members() {
    expect(Modifier.isPublic(NextBench.class.getModifiers()) && Modifier.isFinal(NextBench.class.getModifiers()),
        "the class is not public and final");
    Set<String> methods = new TreeSet<>();
    Set<String> hidden = new TreeSet<>();
    for (Method method : NextBench.class.getDeclaredMethods()) {
      if (Modifier.isPrivate(method.getModifiers())) {
        hidden.add(method.getName());
        continue;
      }
      expect(Modifier.isPublic(method.getModifiers()), "neither public nor private: " + method);
      String signs = Arrays.toString(Arrays.stream(method.getParameterTypes()).map(Class::getName).toArray());
      methods.add(method.getReturnType() + " " + method.getName() + "("
          + signs.substring(1, signs.length() - 1).replace(" ", "") + ")");
    }
    expect(methods.equals(new TreeSet<>(Arrays.asList(FACE))), "the methods are " + methods);
    for (String face : FACE) {
      String name = face.substring(face.indexOf(' ') + 1, face.indexOf('('));
      expect(!hidden.contains(name), "a private method has the public name " + name);
    }
    Set<String> constants = new TreeSet<>();
    for (Field field : NextBench.class.getDeclaredFields()) {
      if (!Modifier.isPrivate(field.getModifiers())) {
        constants.add(field.getType() + " " + field.getName());
      }
      expect(!Modifier.isStatic(field.getModifiers()) || Modifier.isFinal(field.getModifiers()), "not final: " + field);
    }
    expect(constants.equals(new TreeSet<>(Arrays.asList("int UNKNOWN", "int OUTSIDE", "int STATE", "int FULL", "int NO",
        "int NONE", "long LOST"))), "the constants are " + constants);
    Constructor<?>[] constructors = NextBench.class.getDeclaredConstructors();
    expect(constructors.length == 1 && Modifier.isPublic(constructors[0].getModifiers())
        && constructors[0].getParameterCount() == 0, "the constructors are " + Arrays.toString(constructors));
  }

  private static void nestedClasses() {
    Class<?>[] classes = NextBench.class.getDeclaredClasses();
    expect(classes.length <= 11, "too many classes: " + classes.length);
    for (Class<?> nested : classes) {
      int modifiers = nested.getModifiers();
      expect(Modifier.isStatic(modifiers) && !Modifier.isPublic(modifiers) && !Modifier.isProtected(modifiers),
          "not static and hidden: " + nested);
      expect(nested.getDeclaredFields().length <= 20, "too many fields: " + nested);
      for (Method method : nested.getDeclaredMethods()) {
        expect(method.getParameterCount() <= 7, "too many parameters: " + method);
        for (String face : FACE) {
          expect(!face.contains(" " + method.getName() + "("), "a public name inside: " + method);
        }
      }
    }
  }

  private static void source() throws Exception {
    String text = Files.readString(Path.of("src/main/java/NextBench.java"));
    String code = text.replaceAll("(?s)/\\*.*?\\*/", " ").replaceAll("//[^\n]*", " ");
    for (String banned : BANNED) {
      Matcher matcher = Pattern.compile(banned).matcher(code);
      expect(!matcher.find(), "not of the language: " + banned);
    }
    Matcher imports = Pattern.compile("import ([\\w.*]+);").matcher(code);
    while (imports.find()) {
      expect(Set.of("java.util.Arrays", "java.util.ArrayList", "java.util.List").contains(imports.group(1)),
          "not of the library: " + imports.group(1));
    }
    expect(text.chars().allMatch(sign -> sign == '\n' || sign >= 32 && sign < 127), "signs that are not plain");
    String[] lines = text.split("\n");
    for (int i = 0, begun = 0; i < lines.length; i++) {
      if (lines[i].matches(" {4,8}(public|private|void|int|long|boolean|static)[^;=]*\\{")) {
        begun = i;
      } else if (lines[i].matches(" {4,8}\\}") && begun > 0) {
        expect(i - begun <= 60, "a long method ends in line " + (i + 1));
        begun = 0;
      }
    }
  }

  /** All runs share one small room, so an object is small and its calls make nothing but two images. */
  private static void whatCallsMake() {
    ThreadMXBean threads = (ThreadMXBean) ManagementFactory.getThreadMXBean();
    long self = Thread.currentThread().getId();
    dearCalls(new NextBench());
    long start = threads.getThreadAllocatedBytes(self);
    NextBench bench = new NextBench();
    long made = threads.getThreadAllocatedBytes(self);
    dearCalls(bench);
    long end = threads.getThreadAllocatedBytes(self);
    expect(made - start < 150_000, "a new object takes " + (made - start) + " bytes");
    expect(end - made < 20_000, "its calls take " + (end - made) + " bytes");
  }

  private static void dearCalls(NextBench x) {
    for (int i = 0; i < 12; i++) {
      x.say('o');
    }
    x.say('@');
    x.room();
    for (int i = 0; i < 8; i++) {
      x.bear(1 + i % 4);
      x.mean(0);
      x.game(0, 0, 1);
      x.pairs(0);
      x.pairs(1);
      x.rests(3);
      x.arms(i % 6, 3, 0);
      x.minutes(1, 0, 3, 1, 0);
      x.rows(200, i);
      x.longer(90);
      x.come(i % 6);
      x.begin();
      x.see(i);
      x.fits();
      x.image(i % 2);
      x.restore(i % 2);
    }
  }
}
