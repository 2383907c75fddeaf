/** Counts what is not as due, and puts texts on a tape. */
final class Check {
  private static int wrong = 0;
  private static int asked = 0;

  private Check() { }

  static void due(String what, long got, long want) {
    asked++;
    if (got != want) {
      wrong++;
      if (wrong <= 50) System.out.println(what + " answered " + got + ", due is " + want);
    }
  }

  static void due(String what, boolean got, boolean want) {
    due(what, got ? 1 : 0, want ? 1 : 0);
  }

  static int wrong() { return wrong; }

  static int asked() { return asked; }

  static void close() {
    System.out.println(asked + " answers, " + wrong + " not as due");
    if (wrong != 0 || asked == 0) System.exit(1);
  }

  /** Twenty bytes of a text as the five ints that feed takes. */
  static int[] five(String text, int from) {
    int[] row = new int[5];
    for (int i = 0; i < 20; i++) {
      int c = from + i < text.length() ? text.charAt(from + i) : 0;
      row[i / 4] = row[i / 4] << 8 | c;
    }
    return row;
  }

  static void tape(ByteIntervals x, String text) {
    x.end(0);
    for (int i = 0; i < text.length(); i += 20) {
      int[] r = five(text, i);
      x.feed(r[0], r[1], r[2], r[3], r[4]);
    }
    x.end(text.length());
  }

  static int text(ByteIntervals x, String text) {
    tape(x, text);
    return x.text();
  }

  /** A new object with these bytes. */
  static ByteIntervals file(int... bytes) {
    ByteIntervals x = new ByteIntervals();
    x.size(bytes.length);
    for (int i = 0; i < bytes.length; i++) x.set(i, bytes[i]);
    return x;
  }
}
