import java.lang.reflect.Method;
import java.lang.reflect.Modifier;
import java.net.URL;
import java.net.URLClassLoader;
import java.nio.file.Files;
import java.nio.file.Path;
import java.util.ArrayList;
import java.util.List;
import java.util.regex.Matcher;
import java.util.regex.Pattern;
import java.util.stream.Stream;
import javax.tools.JavaCompiler;
import javax.tools.ToolProvider;

/** The program in README.md compiles and answers as its comments say; the README names each call and each test. */
public final class Readme {
  private static int wrong = 0;
  private static int answers = 0;

  private static void check(boolean good, String what) {
    if (!good) { wrong++; System.out.println("not so: " + what); }
  }

  /** Called by the program of the README, once for each call with a comment. */
  public static void due(String call, Object got, String want) {
    answers++;
    check(String.valueOf(got).equals(want), call + " answers " + want + ", but " + got);
  }

  private static String program(List<String> readme) {
    Pattern call = Pattern.compile("( +)((?:x|Double)\\..*);\\s*// ([^ :]+)(?::.*)?");
    StringBuilder s = new StringBuilder();
    boolean inside = false;
    for (String line : readme) {
      if (line.startsWith("```")) { inside = line.equals("```java"); continue; }
      if (!inside) continue;
      Matcher m = call.matcher(line);
      check(!line.contains("//") || m.matches(), "a comment behind a call tells its answer: " + line);
      if (m.matches()) s.append("Readme.due(\"").append(m.group(2)).append("\", ").append(m.group(2)).append(", \"").append(m.group(3)).append("\");\n");
      else s.append(line).append('\n');
    }
    return s.toString();
  }

  private static void runs(List<String> readme) throws Exception {
    Path dir = Files.createTempDirectory("readme");
    Path source = dir.resolve("Example.java");
    Files.writeString(source, program(readme));
    JavaCompiler javac = ToolProvider.getSystemJavaCompiler();
    boolean compiled = javac.run(null, null, null, "-cp", System.getProperty("java.class.path"), "-d", dir.toString(), source.toString()) == 0;
    check(compiled, "the program of the README compiles");
    if (compiled) {
      try (URLClassLoader loader = new URLClassLoader(new URL[] {dir.toUri().toURL()}, Readme.class.getClassLoader())) {
        loader.loadClass("Example").getMethod("main", String[].class).invoke(null, (Object) new String[0]);
      }
    }
    try (Stream<Path> files = Files.list(dir)) {
      for (Path file : files.toList()) Files.delete(file);
    }
    Files.delete(dir);
    check(answers >= 20, "the program has some twenty answers");
  }

  private static void names(List<String> readme, Path root) throws Exception {
    String text = String.join("\n", readme);
    for (Method m : LeapJoin.class.getDeclaredMethods())
      if (Modifier.isPublic(m.getModifiers())) check(text.contains("`" + m.getName() + "`"), "the README names " + m.getName());
    List<Path> tests = new ArrayList<>();
    try (Stream<Path> files = Files.list(root.resolve("tests"))) { tests.addAll(files.toList()); }
    for (Path test : tests) check(text.contains("`tests/" + test.getFileName() + "`"), "the README names " + test);
    check(text.contains(".ci/run"), "the README tells how to run the tests");
  }

  public static void main(String[] args) throws Exception {
    Path root = Path.of(System.getProperty("leapjoin.root", "."));
    List<String> readme = Files.readAllLines(root.resolve("README.md"));
    runs(readme);
    names(readme, root);
    System.out.println(wrong == 0 ? "the README holds, " + answers + " answers" : wrong + " things of the README are not so");
    if (wrong != 0) System.exit(1);
  }
}
