import java.io.File;
import java.lang.reflect.Method;
import java.lang.reflect.Modifier;
import java.net.URL;
import java.net.URLClassLoader;
import java.nio.file.Files;
import java.nio.file.Path;
import java.util.ArrayList;
import java.util.List;
import java.util.Set;
import java.util.TreeSet;
import java.util.regex.Matcher;
import java.util.regex.Pattern;
import java.util.stream.Stream;
import javax.tools.ToolProvider;

/** What README.md says is so. Runs at the root. */
public final class ReadmeTest {
  private static final Pattern CALL = Pattern.compile("(desk\\.(\\w+)\\(.*?\\));\\s+// (-?\\d+): .+");
  private static final Checks CHECKS = new Checks();

  public static void main(String[] args) throws Exception {
    List<String> readme = Files.readAllLines(Path.of("README.md"));
    List<String> example = example(readme);
    everyCallIsShown(example);
    answers(example);
    commands(readme);
    testsAreNamed(String.join("\n", readme));
    CHECKS.end();
  }

  private static List<String> example(List<String> readme) {
    int from = readme.indexOf("```java");
    CHECKS.holds("README.md has one example", from >= 0 && from == readme.lastIndexOf("```java"));
    List<String> out = new ArrayList<>();
    for (int i = from + 1; i < readme.size() && !readme.get(i).equals("```"); i++) {
      out.add(readme.get(i));
    }
    return out;
  }

  private static void everyCallIsShown(List<String> example) {
    CHECKS.holds("the example begins with a new object",
        !example.isEmpty() && example.get(0).equals("OnesDesk desk = new OnesDesk();"));
    Set<String> shown = new TreeSet<>();
    for (String line : example.subList(Math.min(1, example.size()), example.size())) {
      Matcher call = CALL.matcher(line);
      CHECKS.holds("a call and its answer: " + line, call.matches());
      if (call.matches()) shown.add(call.group(2));
    }
    for (Method method : OnesDesk.class.getDeclaredMethods()) {
      if (Modifier.isPublic(method.getModifiers())) {
        CHECKS.holds("the example has " + method.getName(), shown.contains(method.getName()));
      }
    }
  }

  /** Compiles the example as it stands, each call together with the answer of its comment. */
  private static void answers(List<String> example) throws Exception {
    StringBuilder source = new StringBuilder("public final class Example {\n")
        .append("  public static void run(java.util.List<Integer> answers) {\n");
    List<String> calls = new ArrayList<>();
    List<Integer> want = new ArrayList<>();
    for (String line : example) {
      Matcher call = CALL.matcher(line);
      if (call.matches()) {
        calls.add(call.group(1));
        want.add(Integer.valueOf(call.group(3)));
        source.append("answers.add(").append(call.group(1)).append(");\n");
      } else {
        source.append(line).append('\n');
      }
    }
    source.append("  }\n}\n");
    List<Integer> got = answersOf(source.toString());
    CHECKS.due("the example's answers", got.size(), want.size());
    for (int i = 0; i < Math.min(got.size(), want.size()); i++) {
      CHECKS.due("README.md: " + calls.get(i), got.get(i), want.get(i));
    }
  }

  private static List<Integer> answersOf(String source) throws Exception {
    Path folder = Files.createTempDirectory("readme");
    Path file = folder.resolve("Example.java");
    Files.writeString(file, source);
    String classes = System.getProperty("java.class.path");
    int exit = ToolProvider.getSystemJavaCompiler().run(null, null, null,
        "-cp", classes, "-d", folder.toString(), file.toString());
    CHECKS.due("javac of the example", exit, 0);
    List<Integer> got = new ArrayList<>();
    if (exit == 0) {
      try (URLClassLoader loader = new URLClassLoader(new URL[] {folder.toUri().toURL()})) {
        loader.loadClass("Example").getMethod("run", List.class).invoke(null, got);
      }
    }
    for (File left : folder.toFile().listFiles()) left.delete();
    Files.delete(folder);
    return got;
  }

  /** Each block of commands, but .ci/run: that is what runs this test. */
  private static void commands(List<String> readme) throws Exception {
    List<String> blocks = new ArrayList<>();
    StringBuilder block = new StringBuilder();
    for (String line : readme) {
      if (line.startsWith("    ")) {
        block.append(line.substring(4)).append('\n');
      } else if (block.length() > 0) {
        blocks.add(block.toString());
        block.setLength(0);
      }
    }
    if (block.length() > 0) blocks.add(block.toString());
    CHECKS.holds(".ci/run is told", blocks.remove(".ci/run\n"));
    CHECKS.holds(".ci/run can be run", Files.isExecutable(Path.of(".ci/run")));
    CHECKS.holds("other commands are told", !blocks.isEmpty());
    for (String commands : blocks) CHECKS.due(commands, exitOf(commands), 0);
  }

  private static int exitOf(String commands) throws Exception {
    Process process = new ProcessBuilder("bash", "-e", "-c", commands)
        .redirectErrorStream(true).redirectOutput(ProcessBuilder.Redirect.INHERIT).start();
    return process.waitFor();
  }

  private static void testsAreNamed(String readme) throws Exception {
    Set<String> there = new TreeSet<>();
    try (Stream<Path> files = Files.list(Path.of("src/test/java"))) {
      files.map(file -> file.getFileName().toString())
          .filter(name -> name.endsWith("Test.java"))
          .forEach(name -> there.add(name.replace(".java", "")));
    }
    Set<String> named = new TreeSet<>();
    Matcher names = Pattern.compile("`(\\w+Test)`").matcher(readme);
    while (names.find()) named.add(names.group(1));
    CHECKS.holds("the tests named, " + named + ", are those there are, " + there,
        named.equals(there));
  }
}
