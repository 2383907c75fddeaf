import java.io.File;
import java.lang.reflect.Method;
import java.lang.reflect.Modifier;
import java.net.URL;
import java.net.URLClassLoader;
import java.nio.charset.StandardCharsets;
import java.nio.file.Files;
import java.nio.file.Path;
import java.util.Map;
import java.util.TreeMap;
import java.util.TreeSet;
import java.util.regex.Matcher;
import java.util.regex.Pattern;
import java.util.spi.ToolProvider;

/** README.md's examples answer what stands behind them, and it names every call: run from the project's folder. */
public final class ReadmeTest {
  private static final Pattern ANSWER = Pattern.compile("^(x\\..*\\));\\s+// (-?\\d+|true|false)\\b.*$");

  public static void main(String[] args) throws Exception {
    String readme = Files.readString(Path.of("README.md"), StandardCharsets.UTF_8);
    examples(readme);
    table(readme);
    tests(readme);
    Check.close();
  }

  /** All examples, one behind the other, become one program; it notes what each call with an answer gave. */
  private static void examples(String readme) throws Exception {
    StringBuilder program = new StringBuilder("public final class Examples {\n  public static void show(java.util.Map<String, String> got) {\n");
    Map<String, String> due = new TreeMap<>();
    Matcher example = Pattern.compile("(?s)```java\n(.*?)```").matcher(readme);
    while (example.find()) {
      for (String line : example.group(1).split("\n")) {
        Matcher m = ANSWER.matcher(line);
        if (m.find()) {
          String key = String.format("%03d %s", due.size(), m.group(1));
          due.put(key, m.group(2));
          program.append("got.put(\"").append(key).append("\", \"\" + ").append(m.group(1)).append(");\n");
        } else {
          program.append(line).append('\n');
        }
      }
    }
    program.append("  }\n}\n");
    Check.due("answers told", due.size() >= 20, true);
    Map<String, String> got = shown(program.toString());
    for (String key : due.keySet()) {
      Check.due(key + ": " + got.get(key) + ", README.md tells " + due.get(key), due.get(key).equals(got.get(key)), true);
    }
  }

  private static Map<String, String> shown(String program) throws Exception {
    Path folder = Files.createTempDirectory("readme");
    Path source = folder.resolve("Examples.java");
    Files.writeString(source, program, StandardCharsets.UTF_8);
    String classes = new File(ByteIntervals.class.getProtectionDomain().getCodeSource().getLocation().toURI()).getPath();
    int fault = ToolProvider.findFirst("javac").orElseThrow().run(System.out, System.out, "-cp", classes, "-d", folder.toString(), source.toString());
    Check.due("javac of the examples", fault, 0);
    Map<String, String> got = new TreeMap<>();
    if (fault == 0) {
      try (URLClassLoader loader = new URLClassLoader(new URL[] {folder.toUri().toURL()}, ReadmeTest.class.getClassLoader())) {
        loader.loadClass("Examples").getMethod("show", Map.class).invoke(null, got);
      }
    }
    File[] left = folder.toFile().listFiles();
    if (left != null) for (File f : left) f.delete();
    folder.toFile().delete();
    return got;
  }

  /** Each call stands in the table, once. */
  private static void table(String readme) {
    Map<String, Integer> named = new TreeMap<>();
    for (String line : readme.split("\n")) {
      if (!line.startsWith("| ")) continue;
      Matcher m = Pattern.compile("`(\\w+)`").matcher(line);
      while (m.find()) named.merge(m.group(1), 1, Integer::sum);
    }
    TreeSet<String> calls = new TreeSet<>();
    for (Method m : ByteIntervals.class.getDeclaredMethods()) if (Modifier.isPublic(m.getModifiers())) calls.add(m.getName());
    Check.due("calls", calls.size(), 42);
    for (String call : calls) Check.due(call + " in the table", named.getOrDefault(call, 0), 1);
    Check.due("what is no call: " + named.keySet(), calls.containsAll(named.keySet()), true);
  }

  /** How the tests are run, and each of ours by its name. */
  private static void tests(String readme) {
    Check.due(".ci/run is told", readme.contains("\n    .ci/run\n"), true);
    File[] ours = new File("src/test/java").listFiles((folder, name) -> name.endsWith("Test.java"));
    Check.due("tests", ours != null && ours.length > 0, true);
    if (ours != null) for (File f : ours) Check.due(f.getName(), readme.contains("`" + f.getName().replace(".java", "") + "`"), true);
  }
}
