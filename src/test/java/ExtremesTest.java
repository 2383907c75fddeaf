import java.lang.reflect.Method;
import java.lang.reflect.Modifier;
import java.util.Arrays;
import java.util.Comparator;

/**
 * Every call with every mix of low, high and just fitting arguments, in objects that are new, in use and full:
 * the program answers as the model does, and none throws.
 */
public final class ExtremesTest {
  private static final int MAX = Integer.MAX_VALUE;
  private static final int MIN = Integer.MIN_VALUE;
  private static final int[] MANY = {MIN, MIN + 1, -16777216, -257, -41, -3, -2, -1, 0, 1, 2, 3, 4, 5, 7, 8, 9, 19, 20, 21, 24, 25, 26, 29, 30, 31,
      38, 39, 40, 41, 59, 60, 61, 127, 128, 254, 255, 256, 299, 300, 301, 9998, 9999, 10000, 31079, 16777215, 16777216, MAX - 1, MAX};
  private static final int[] SOME = {MIN, -2, -1, 0, 1, 2, 3, 4, 7, 8, 39, 40, 255, 256, 16777215, 16777216, MAX};
  private static final int[] FEW = {MIN, -1, 0, 1, 3, 4, 7, 8, MAX};
  /** Each is followed by two more; with those that bring the object about they stay below 512. */
  private static final int CALLS = 140;

  public static void main(String[] args) throws Exception {
    Method[] face = ByteIntervals.class.getDeclaredMethods();
    Arrays.sort(face, Comparator.comparing(Method::getName));
    int methods = 0;
    for (Method m : face) {
      if (!Modifier.isPublic(m.getModifiers())) continue;
      methods++;
      Method same = Model.class.getDeclaredMethod(m.getName(), m.getParameterTypes());
      same.setAccessible(true);
      for (int state = 0; state < 4; state++) new Calls(m, same, state).go();
    }
    Check.due("methods", methods, 42);
    Check.close();
  }

  private static final class Calls {
    final Method real, same; final int state; final int[] values;
    ByteIntervals x; Model m; int left = 0;

    Calls(Method real, Method same, int state) {
      this.real = real;
      this.same = same;
      this.state = state;
      int n = real.getParameterCount();
      values = n <= 2 ? MANY : n == 3 ? SOME : n == 4 ? FEW : new int[] {MIN, -1, 0, MAX};
    }

    void go() throws Exception {
      // What the model tries byte by byte is left to small files.
      if (real.getName().equals("make") && state == 3) return;
      mixes(new Object[real.getParameterCount()], 0);
    }

    void mixes(Object[] with, int i) throws Exception {
      if (i < with.length) {
        for (int v : values) {
          with[i] = v;
          mixes(with, i + 1);
        }
        return;
      }
      if (left == 0) {
        x = new ByteIntervals();
        m = new Model();
        bring();
        left = CALLS;
      }
      left--;
      String call = real.getName() + Arrays.toString(with) + " in state " + state;
      Object got = real.invoke(x, with), want = same.invoke(m, with);
      Check.due(call, number(got), number(want));
      Check.due("SIZE behind " + call, x.is(2), m.is(2));
      Check.due("bytes behind " + call, x.is(3), m.is(3));
    }

    static long number(Object o) {
      return o instanceof Boolean ? (Boolean) o ? 1 : 0 : ((Number) o).longValue();
    }

    void text(String t) {
      for (int i = 0; i < t.length(); i += 20) {
        int[] r = Check.five(t, i);
        x.feed(r[0], r[1], r[2], r[3], r[4]);
        m.feed(r[0], r[1], r[2], r[3], r[4]);
      }
      x.end(t.length());
      m.end(t.length());
      Check.due("text " + t, x.text(), m.text());
    }

    void set(int place, int value) { Check.due("set", number(x.set(place, value)), number(m.set(place, value))); }

    /** 0 a new object, 1 a small file and one TEXT, 2 four TEXTS, 3 all as full as it can be. */
    void bring() {
      if (state == 0) return;
      x.size(state == 3 ? 40 : 5);
      m.size(state == 3 ? 40 : 5);
      for (int i = 0; i < 5; i++) set(i, state == 3 ? 255 : 3 * i + 1);
      text("num a at 0 to 1;nest d at 1 to size;sum h at 0 of 1 to size;must peek 1=a;must d>1;rots 4;");
      x.by(0);
      m.by(0);
      if (state == 1) return;
      text("num a at 0 to 3;sum b at size-1 of 0 to a;num h at h to 1;set 4 to 0;mend;");
      text("size 9;day 60;size 9;");
      text("");
      x.said(0, 1);
      m.said(0, 1);
      if (state == 2) return;
      for (int i = 0; i < 7; i++) Check.due("said", x.said(7, i), m.said(7, i));
      for (int i = 0; i < 10; i++) Check.due("day", x.day(60), m.day(60));
      for (int i = 0; i < 15; i++) Check.due("feed", x.feed(i, 0, MIN, MAX, -1), m.feed(i, 0, MIN, MAX, -1));
      Check.due("image", x.image(), m.image());
      set(39, 255 - x.at(39));
    }
  }
}
