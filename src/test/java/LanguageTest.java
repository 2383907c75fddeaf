import java.io.PrintWriter;
import java.io.StringWriter;
import java.lang.reflect.Constructor;
import java.lang.reflect.Field;
import java.lang.reflect.Method;
import java.lang.reflect.Modifier;
import java.nio.file.Files;
import java.nio.file.Path;
import java.util.ArrayList;
import java.util.Arrays;
import java.util.List;
import java.util.Map;
import java.util.Set;
import java.util.TreeMap;
import java.util.TreeSet;
import java.util.regex.Matcher;
import java.util.regex.Pattern;
import java.util.spi.ToolProvider;

/** What of LANGUAGE.md can be seen from the source and the classes: run from the project's folder. */
public final class LanguageTest {
  private static final String[] FACE = {
    "int feed(int,int,int,int,int)", "int end(int)", "int text()", "int fault(int)", "boolean by(int)", "boolean set(int,int)",
    "boolean size(int)", "int mend()", "int day(int)", "int played(int)", "int years(int,int)", "int undo()", "int at(int)",
    "int is(int)", "int book(int,int)", "int foretold(int,int)", "boolean valid(int)", "int field(int,int,int)",
    "int inside(int,int,int,int)", "int order(int,int)", "int ring(int)", "int overlap(int,int)", "long loose(int)",
    "long needs(int,int)", "int flips(int,int)", "boolean sure(int,int)", "int least(int)", "int make(int,int,int)",
    "int alike(int,int)", "int must(int)", "int deep(int)", "int kind(int,int)", "int number(int,int)", "int sum(int,int)",
    "int find(int,int)", "int run()", "int said(int,int)", "int whose()", "int ledger(int)", "int image()", "int back()", "int about(int)"};

  public static void main(String[] args) throws Exception {
    face();
    classes();
    String code = bare(Files.readString(Path.of("src/main/java/ByteIntervals.java"), java.nio.charset.StandardCharsets.UTF_8));
    words(code);
    methods(code);
    depth();
    Check.close();
  }

  private static List<Class<?>> all() {
    List<Class<?>> all = new ArrayList<>(List.of(ByteIntervals.class));
    for (int i = 0; i < all.size(); i++) all.addAll(Arrays.asList(all.get(i).getDeclaredClasses()));
    return all;
  }

  private static String told(Method m) {
    StringBuilder b = new StringBuilder(m.getReturnType().getName()).append(' ').append(m.getName()).append('(');
    for (Class<?> c : m.getParameterTypes()) b.append(b.charAt(b.length() - 1) == '(' ? "" : ",").append(c.getName());
    return b.append(')').toString();
  }

  private static void face() {
    Set<String> face = new TreeSet<>(Arrays.asList(FACE));
    Set<String> seen = new TreeSet<>();
    for (Method m : ByteIntervals.class.getDeclaredMethods()) {
      if (!Modifier.isPrivate(m.getModifiers())) {
        Check.due("public and no more: " + m, m.getModifiers(), Modifier.PUBLIC);
        seen.add(told(m));
      }
    }
    Check.due("the face: " + seen, seen.equals(face), true);
    Check.due("the class", ByteIntervals.class.getModifiers(), Modifier.PUBLIC | Modifier.FINAL);
    Constructor<?>[] made = ByteIntervals.class.getDeclaredConstructors();
    Check.due("one constructor", made.length, 1);
    Check.due("public", made[0].getModifiers(), Modifier.PUBLIC);
    for (Field f : ByteIntervals.class.getDeclaredFields()) {
      Check.due("private: " + f, Modifier.isPrivate(f.getModifiers()), !f.getName().equals("NONE"));
    }
  }

  private static void classes() {
    Set<String> names = new TreeSet<>();
    for (String s : FACE) names.add(s.replaceAll("^\\w+ (\\w+)\\(.*$", "$1"));
    Check.due("classes", all().size() <= 12, true);
    for (Class<?> c : all()) {
      boolean inner = c != ByteIntervals.class;
      int fields = 0;
      Check.due("not public, static: " + c, inner && (!Modifier.isStatic(c.getModifiers()) || Modifier.isPublic(c.getModifiers())), false);
      for (Field f : c.getDeclaredFields()) {
        boolean fixed = Modifier.isStatic(f.getModifiers());
        Check.due("static is final: " + f, !fixed || Modifier.isFinal(f.getModifiers()), true);
        fields += fixed ? 0 : 1;
      }
      Check.due("fields of " + c + ": " + fields, fields <= 20, true);
      for (Method m : c.getDeclaredMethods()) {
        boolean ofFace = !inner && Modifier.isPublic(m.getModifiers());
        Check.due("a name of the face: " + m, !ofFace && names.contains(m.getName()), false);
        Check.due("of Object: " + m, List.of("equals", "hashCode", "toString").contains(m.getName()), false);
        Check.due("parameters: " + m, m.getParameterCount() <= 7, true);
      }
    }
  }

  /** The source without comments, texts and characters. */
  private static String bare(String source) {
    Check.due("ASCII", source.chars().allMatch(c -> c == 10 || c >= 32 && c < 127), true);
    return source.replaceAll("(?s)/\\*.*?\\*/", "").replaceAll("\"[^\"\\n]*\"", "\"\"").replaceAll("'[^'\\n]+'", "0").replaceAll("//[^\\n]*", "");
  }

  private static void words(String code) {
    String banned = "\\b(throw|throws|try|catch|finally|synchronized|assert|package|import|volatile|native|protected|double|float|"
        + "System\\.(?!arraycopy)\\w+|Thread|Random|Object|\\w+Exact|hashCode|getClass|equals)\\b|->|::|@|\\.\\.\\.|static \\{";
    Matcher m = Pattern.compile(banned).matcher(code);
    while (m.find()) Check.due("not in the language: " + m.group(), 1, 0);
    Check.due("words looked at", code.contains("final class"), true);
    Matcher made = Pattern.compile("\\bnew \\w+").matcher(code);
    Set<String> all = new TreeSet<>();
    while (made.find()) all.add(made.group());
    Check.due("made: " + all, all.equals(Set.of("new int", "new long", "new Text", "new State", "new Moment", "new Parser", "new Reader", "new Reading")), true);
  }

  /** A method starts at a line that ends with ") {" in its class, and ends where its brace does. */
  private static void methods(String code) {
    String[] lines = code.split("\n");
    int seen = 0;
    for (int i = 0; i < lines.length; i++) {
      Matcher m = Pattern.compile("^(    |        )(private|public) .*\\) \\{$").matcher(lines[i]);
      if (!m.find()) continue;
      int end = i;
      while (!lines[end].equals(m.group(1) + "}")) end++;
      seen++;
      Check.due("lines of " + lines[i].trim(), end - i < 60, true);
      String body = String.join("\n", Arrays.copyOfRange(lines, i, end));
      // What is made is made with the object: no method makes any.
      boolean makes = body.contains("new ") && !body.contains("ByteIntervals()") && !body.contains("State()");
      Check.due("makes: " + lines[i].trim(), makes, false);
    }
    Check.due("methods seen", seen > 100, true);
  }

  /** How deep calls go, by the byte code: methods that call one another around count as one. */
  private static void depth() {
    Map<String, Set<String>> calls = new TreeMap<>();
    for (Class<?> c : all()) {
      StringWriter told = new StringWriter();
      String file = c.getName().replace('.', '/') + ".class";
      String path = c.getResource("/" + file).getPath();
      ToolProvider.findFirst("javap").orElseThrow().run(new PrintWriter(told), new PrintWriter(System.out), "-c", "-p", "-s", path);
      String method = null;
      for (String line : told.toString().split("\n")) {
        Matcher m = Pattern.compile("^  (?:private |public |static |final )*[\\w$.\\[\\]]+(?: (\\w+))?\\(.*\\);$").matcher(line);
        if (m.find()) method = c.getName() + "." + (m.group(1) == null ? "new" : m.group(1));
        m = Pattern.compile("// Method (?:(ByteIntervals[\\w$]*)\\.)?\"?(\\w+|<init>)\"?:").matcher(line);
        if (m.find() && method != null) {
          String name = m.group(2).equals("<init>") ? "new" : m.group(2);
          calls.computeIfAbsent(method, k -> new TreeSet<>()).add((m.group(1) == null ? c.getName() : m.group(1)) + "." + name);
        }
      }
    }
    Check.due("calls seen", calls.size() > 80, true);
    String[] deepest = {""};
    for (String method : calls.keySet()) chain(calls, method, method, 1, new TreeSet<>(Set.of(method)), deepest);
    int depth = deepest[0].split(" ").length;
    System.out.println("deepest calls: " + deepest[0]);
    Check.due("deep: " + deepest[0], depth <= 8, true);
  }

  private static boolean reaches(Map<String, Set<String>> calls, String from, String to, Set<String> seen) {
    for (String next : calls.getOrDefault(from, Set.of())) {
      if (next.equals(to) || seen.add(next) && reaches(calls, next, to, seen)) return true;
    }
    return false;
  }

  private static void chain(Map<String, Set<String>> calls, String method, String told, int depth, Set<String> open, String[] deepest) {
    if (depth > deepest[0].split(" ").length || deepest[0].isEmpty()) deepest[0] = told;
    // What calls one another around is gone through as one.
    Set<String> around = new TreeSet<>(Set.of(method));
    for (String other : calls.keySet()) {
      if (reaches(calls, method, other, new TreeSet<>()) && reaches(calls, other, method, new TreeSet<>())) around.add(other);
    }
    for (String member : around) {
      for (String next : calls.getOrDefault(member, Set.of())) {
        if (around.contains(next) || !open.add(next)) continue;
        chain(calls, next, told + " " + next, depth + 1, open, deepest);
        open.remove(next);
      }
    }
  }
}
