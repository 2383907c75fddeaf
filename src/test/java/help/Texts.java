import java.util.Random;

/** Draws texts: by the grammar, mostly small formats that come to something; some of them then spoilt. */
final class Texts {
  private final Random random;
  private boolean law;
  private int open;

  Texts(Random random) { this.random = random; }

  private int below(int n) { return random.nextInt(n); }
  private String one(String... of) { return of[below(of.length)]; }

  String draw() {
    for (int again = 0; again < 40; again++) {
      String t = clauses();
      if (below(6) == 0) t = spoil(t);
      if (t.length() <= 300) return t;
    }
    return "";
  }

  private String clauses() {
    StringBuilder b = new StringBuilder();
    int n = below(8) == 0 ? below(26) : below(9);
    int told = 0;
    boolean rots = false;
    for (int i = 0; i < n; i++) {
      int kind = below(12);
      if (n > 9) kind = 8 + below(4);
      if (kind < 6) {
        int f = below(4) == 0 ? below(8) : Integer.numberOfTrailingZeros(~told);
        if ((told >> f & 1) != 0 && below(12) != 0 || f > 7) continue;
        told |= 1 << f;
        b.append(field((char) ('a' + f)));
      } else if (kind < 8) {
        law = false;
        b.append("must ").append(either(2)).append(";");
      } else if (kind == 8) {
        if (rots && below(8) != 0) continue;
        rots = true;
        law = true;
        b.append("rots ").append(below(3) == 0 ? "10" : sum(2)).append(";");
      } else if (kind == 9) {
        b.append("set ").append(below(below(20) == 0 ? 45 : 8)).append(" to ").append(below(below(20) == 0 ? 300 : 30)).append(";");
      } else if (kind == 10) {
        b.append("size ").append(below(below(20) == 0 ? 45 : 14)).append(";");
      } else {
        b.append(one("mend;", "day " + below(4) + ";", "day " + (1 + below(3)) + ";", "day 60;", "mend ;\n"));
      }
      if (below(10) == 0) b.append(one(" ", "\n", "  "));
    }
    return b.toString();
  }

  private String field(char f) {
    law = false;
    switch (below(6)) {
      case 0:
      case 1: {
        String at = from();
        return "num " + f + " at " + at + " to " + one(at + "+" + below(4), to()) + ";";
      }
      case 2:
      case 3:
        return "sum " + f + " at " + from() + " of " + from() + " to " + to() + ";";
      default:
        return "nest " + f + " at " + from() + " to " + to() + ";";
    }
  }

  private String from() {
    return below(5) == 0 ? sum(2) : one("0", "1", "2", "size-1", "" + below(6), letter(), "size/2", "deep", "peek " + below(3), "0", "1");
  }

  private String to() {
    return below(5) == 0 ? sum(2) : one("size", "size-1", "size-2", "" + below(8), letter(), letter() + "+1", "size-deep", "peek 0", "size");
  }

  private String letter() { return "" + (char) ('a' + below(below(3) == 0 ? 8 : 3)); }

  private String name() {
    if (below(40) == 0) return one("day", "place", "old", "deep", letter(), "to", "x");
    if (law) return one("size", "day", "place", "old");
    return below(3) == 0 ? one("size", "deep") : letter();
  }

  private String sum(int depth) {
    StringBuilder b = new StringBuilder(product(depth));
    for (int i = below(3); i > 1; i--) b.append(one("+", "-")).append(product(depth));
    if (below(3) == 0) b.append(one("+", "-")).append(product(depth));
    return b.toString();
  }

  private String product(int depth) {
    return below(4) == 0 ? atom(depth) + one("*", "/") + atom(depth) : atom(depth);
  }

  private String atom(int depth) {
    if (depth <= 0 || below(2) == 0) return below(2) == 0 ? "" + number() : name();
    switch (below(8)) {
      case 0:
      case 1: return "(" + sum(depth - 1) + ")";
      case 2: return "-" + atom(depth - 1);
      case 3:
      case 4:
      case 5: return "peek " + atom(depth - 1);
      default: return "if " + either(depth - 1) + " then " + sum(depth - 1) + " else " + sum(depth - 1) + " end";
    }
  }

  private int number() { return below(12) == 0 ? below(10001) : below(3) == 0 ? below(256) : below(6); }

  private String either(int depth) {
    StringBuilder b = new StringBuilder(both(depth));
    if (below(4) == 0) b.append(" or ").append(both(depth));
    return b.toString();
  }

  private String both(int depth) { return below(4) == 0 ? ask(depth) + " and " + ask(depth) : ask(depth); }

  private String ask(int depth) {
    if (below(5) == 0) return "not " + ask(depth);
    return sum(depth) + one("<", "<=", ">", ">=", "=", "#", "#") + sum(depth);
  }

  private String spoil(String t) {
    if (below(5) == 0) {
      StringBuilder b = new StringBuilder(one("rots ", "must ", "num a at "));
      int n = 7 + below(3);
      for (int i = 0; i < n; i++) b.append(one("(", "-", "peek ", "("));
      return t + b + "1";
    }
    if (below(8) == 0) return "mend;".repeat(22 + below(3)) + one("size 4;", "rots 1;", "") + one("mend;", "num a at 0 to 1;", "rots 2;", "x", "rots");
    int at = below(t.length() + 1);
    switch (below(5)) {
      case 0: return t.substring(0, at);
      case 1: return t.substring(0, at) + one("!", "(", ")", " 7 ", " a ", ";", "\t", "<", "99999", " end ", " peek ", "A", "\u0000", "\u00e9") + t.substring(at);
      case 2: return at < t.length() ? t.substring(0, at) + t.substring(at + 1) : t;
      case 3: return t + one("num i at 0 to 1;", "rots 1;rots 2;", "rots a;", "must day=1;", "size 41;", "must 1;", "mend");
      default: return at < t.length() ? t.substring(0, at) + (char) (32 + below(96)) + t.substring(at + 1) : t;
    }
  }
}
