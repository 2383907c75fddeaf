import java.lang.management.ManagementFactory;
import java.lang.reflect.Array;
import java.lang.reflect.Field;
import java.lang.reflect.Modifier;
import java.util.ArrayDeque;
import java.util.Collections;
import java.util.Deque;
import java.util.IdentityHashMap;
import java.util.Set;

/** How much room an object takes, that its calls take none, and that the dearest calls come to an end soon. */
public final class RoomTest {
  public static void main(String[] args) throws Exception {
    made();
    callsMakeNothing();
    dearest();
    Check.close();
  }

  private static void made() throws Exception {
    Set<Object> seen = Collections.newSetFromMap(new IdentityHashMap<>());
    Deque<Object> open = new ArrayDeque<>();
    open.add(new ByteIntervals());
    long parts = 0;
    while (!open.isEmpty()) {
      Object o = open.remove();
      if (!seen.add(o)) continue;
      if (o.getClass().isArray()) {
        parts += Array.getLength(o);
        if (o instanceof Object[]) for (Object e : (Object[]) o) if (e != null) open.add(e);
        continue;
      }
      for (Field f : o.getClass().getDeclaredFields()) {
        if (Modifier.isStatic(f.getModifiers())) continue;
        parts++;
        f.setAccessible(true);
        if (!f.getType().isPrimitive() && f.get(o) != null) open.add(f.get(o));
      }
    }
    System.out.println("a new object: " + seen.size() + " objects and arrays, " + parts + " fields and elements");
    // So 512 new objects in one run stay below 600,000 and 7.3 million.
    Check.due("objects", seen.size() <= 1000, true);
    Check.due("fields and elements", parts <= 13000, true);
  }

  private static void callsMakeNothing() {
    com.sun.management.ThreadMXBean bean = (com.sun.management.ThreadMXBean) ManagementFactory.getThreadMXBean();
    long id = Thread.currentThread().getId();
    ByteIntervals[] objects = {new ByteIntervals(), new ByteIntervals()};
    long made = 0;
    for (int i = 0; i < objects.length; i++) {
      long ahead = bean.getThreadAllocatedBytes(id);
      everyCall(objects[i]);
      made = bean.getThreadAllocatedBytes(id) - ahead;
    }
    // The second time all classes are loaded; the bean itself may take a little.
    Check.due("bytes made by every call: " + made, made < 2000, true);
  }

  private static final String TEXT = "num a at 0 to 1;nest b at 1 to size;sum c at size-1 of 0 to size-1;must if a<9 then peek 2 else 1 end>=0;rots 5;size 9;set 1 to 1;mend;day 60;";
  private static final int[][] FED = new int[8][];

  static {
    for (int i = 0; i < 8; i++) FED[i] = Check.five(TEXT, 20 * i);
  }

  private static long everyCall(ByteIntervals x) {
    for (int[] r : FED) x.feed(r[0], r[1], r[2], r[3], r[4]);
    long all = x.end(TEXT.length()) + x.text() + x.fault(0) + (x.by(0) ? 1 : 0) + x.played(0);
    for (int i = 0; i < 30; i++) {
      all += (x.set(2, i) ? 1 : 0) + (x.size(i) ? 1 : 0) + x.mend() + x.day(5) + x.years(i, 40) + x.at(1) + x.is(1);
      all += x.book(1, 1) + x.foretold(9, 1) + (x.valid(0) ? 1 : 0) + x.field(0, 1, 0) + x.inside(0, 1, 0, 0) + x.order(0, 1) + x.ring(0);
      all += x.overlap(0, 1) + x.loose(0) + x.needs(0, 1) + x.flips(0, 1) + (x.sure(0, 1) ? 1 : 0) + x.least(0) + x.make(0, 1, 3);
      all += x.alike(0, 0) + x.must(0) + x.deep(0) + x.kind(0, 0) + x.number(0, 2) + x.sum(0, 4) + x.find(3, 0) + x.run();
      all += x.said(0, 1) + x.whose() + x.ledger(1) + x.image() + x.back() + x.about(1) + x.undo();
    }
    return all;
  }

  /** What would be dear, were every byte tried with all that is read: it ends within the time of the run. */
  private static void dearest() {
    StringBuilder b = new StringBuilder();
    for (int f = 0; f < 7; f++) b.append("nest ").append((char) ('a' + f)).append(" at 0 to size-1-peek ").append(f).append("/256;");
    b.append("sum h at 0 of 0 to size;");
    ByteIntervals x = new ByteIntervals();
    x.size(40);
    Check.due("text", Check.text(x, b.toString()), 0);
    for (int i = 0; i < 120; i++) {
      Check.due("make", x.make(0, 0, 7), -1);
      Check.due("least", x.least(0), -1);
      Check.due("make of a sum", x.make(0, 7, 0), 1);
    }
  }
}
