import java.nio.charset.StandardCharsets;
import java.nio.file.Files;
import java.nio.file.Path;
import java.util.Map;
import java.util.TreeMap;
import java.util.regex.Matcher;
import java.util.regex.Pattern;

/** Each promise of the document has tests of its edges, named by its number: run from the project's folder. */
public final class EveryPromiseTest {
  public static void main(String[] args) throws Exception {
    Map<String, Integer> tests = new TreeMap<>();
    for (String of : new String[] {"File", "Texts", "Formats"}) {
      String source = Files.readString(Path.of("src/test/java/EdgesOf" + of + "Test.java"), StandardCharsets.UTF_8);
      Matcher m = Pattern.compile("\\n  static void p(\\d\\d)_\\w+\\(\\) \\{").matcher(source);
      while (m.find()) tests.merge(m.group(1), 1, Integer::sum);
    }
    String document = Files.readString(Path.of("../shared/DOC.md"), StandardCharsets.UTF_8);
    Matcher m = Pattern.compile("(?m)^## Promise (\\d+): (.*)$").matcher(document);
    int promises = 0;
    while (m.find()) {
      promises++;
      String number = (m.group(1).length() < 2 ? "0" : "") + m.group(1);
      int has = tests.getOrDefault(number, 0);
      System.out.println("promise " + number + ", " + m.group(2) + ": " + has + " tests");
      Check.due("promise " + number + " has tests", has > 0, true);
    }
    Check.due("promises", promises, 43);
    Check.due("promises with tests: none else", tests.size(), promises);
    Check.close();
  }
}
