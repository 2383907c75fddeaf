import java.lang.reflect.Method;
import java.lang.reflect.Modifier;
import java.util.Arrays;
import java.util.Comparator;
import java.util.function.IntPredicate;

/**
 * Runs every test of a class: each static method whose name begins with a promise's number (p07_..) holds one
 * sentence that names a boundary case. What is not as due is told with the name of its test.
 */
final class Edges {
  private static String test = "";
  private static int part = 0;

  private Edges() { }

  static void runAll(Class<?> tests) throws Exception {
    Method[] all = tests.getDeclaredMethods();
    Arrays.sort(all, Comparator.comparing(Method::getName));
    int count = 0;
    for (Method m : all) {
      if (!m.getName().matches("p\\d\\d_\\w+")) continue;
      Check.due("static, without arguments: " + m, Modifier.isStatic(m.getModifiers()) && m.getParameterCount() == 0, true);
      test = m.getName();
      part = 0;
      int asked = Check.asked();
      m.setAccessible(true);
      m.invoke(null);
      Check.due(test + " asks something", Check.asked() > asked, true);
      count++;
    }
    System.out.println(count + " tests");
    Check.close();
  }

  static void due(long got, long want) {
    part++;
    Check.due(test + ", the " + part + ". of it,", got, want);
  }

  static void due(boolean got, boolean want) { due(got ? 1 : 0, want ? 1 : 0); }

  // ---- Objects ----

  /** A new object with these bytes. */
  static ByteIntervals file(int... bytes) { return Check.file(bytes); }

  /** Likewise with one TEXT, by which nothing is yet. */
  static ByteIntervals with(String text, int... bytes) {
    ByteIntervals x = file(bytes);
    read(x, text);
    return x;
  }

  /** Likewise with that TEXT as THE TEXT. */
  static ByteIntervals by(String text, int... bytes) {
    ByteIntervals x = with(text, bytes);
    due(x.by(0), true);
    return x;
  }

  /** A TEXT that has no FAULT: its number. */
  static int read(ByteIntervals x, String text) {
    int number = Check.text(x, text);
    due(number >= 0, true);
    return number;
  }

  /** A new object whose DAY is 9999 less some. */
  static ByteIntervals late(int less) {
    ByteIntervals x = new ByteIntervals();
    int days = 9999 - less;
    for (; days > 60; days -= 60) x.day(60);
    x.day(days);
    due(x.is(0), 9999 - less);
    return x;
  }

  // ---- X ----

  static int anew(int x) { return (x * 743 + 607) % 31079; }

  /**
   * A SEED by which the first of the YEARS does nothing (x mod 12 is 1) but leaves an X of some kind.
   */
  static int seed(IntPredicate kind) {
    for (int s = 1; s <= 9999; s += 6) if (kind.test(anew(s * 2 + 479))) return s;
    throw new IllegalStateException(test + ": no such SEED");
  }

  /** X becomes one by which the next DAY draws these, of a file of so many bytes. */
  static void draws(ByteIntervals x, int place, int bit, int tenth) {
    int size = x.is(2);
    int s = seed(d -> d % size == place && anew(d) % 8 == bit && anew(anew(d)) % 10 == tenth);
    x.years(s, 1);
    due(x.is(1), anew(s * 2 + 479));
  }
}
