import java.util.ArrayList;
import java.util.Arrays;
import java.util.HashSet;
import java.util.List;
import java.util.Set;
import java.util.TreeSet;

/**
 * The document a second time, as plainly as it can be said and with no care for cost: trees, sets, copies.
 * Nothing is shared with the program; where both are asked the same, both must answer the same.
 */
final class Model {
  // ---- Trees of SUMS and EITHERS ----

  interface Tree { long ask(Place p); void names(Set<String> into); }

  /** Where a tree is asked: what names mean there, and which places of THE FILE were looked at. */
  static final class Place {
    int[] bytes; int base, size, deep; long[] values = new long[8];
    int day, place, old;
    Set<Integer> looked = new TreeSet<>();
    long peek(long at) {
      if (at < 0 || at >= size) return 0;
      looked.add(base + (int) at);
      return bytes[base + (int) at];
    }
  }

  record Num(int n) implements Tree {
    public long ask(Place p) { return n; }
    public void names(Set<String> into) { }
  }
  record Name(String s) implements Tree {
    public long ask(Place p) {
      switch (s) {
        case "size": return p.size;
        case "deep": return p.deep;
        case "day": return p.day;
        case "place": return p.place;
        case "old": return p.old;
        default: return p.values[s.charAt(0) - 'a'];
      }
    }
    public void names(Set<String> into) { into.add(s); }
  }
  record One(String op, Tree a) implements Tree {
    public long ask(Place p) {
      long x = a.ask(p);
      switch (op) {
        case "-": return -x;
        case "not": return x == 0 ? 1 : 0;
        default: return p.peek(x);
      }
    }
    public void names(Set<String> into) { if (op.equals("peek")) into.add("peek"); a.names(into); }
  }
  record Two(String op, Tree a, Tree b) implements Tree {
    public long ask(Place p) {
      long x = a.ask(p), y = b.ask(p);
      switch (op) {
        case "+": return cut(x + y);
        case "-": return cut(x - y);
        case "*": return cut(x * y);
        case "/": return y == 0 ? 0 : cut(x / y);
        case "<": return x < y ? 1 : 0;
        case "<=": return x <= y ? 1 : 0;
        case ">": return x > y ? 1 : 0;
        case ">=": return x >= y ? 1 : 0;
        case "=": return x == y ? 1 : 0;
        case "#": return x != y ? 1 : 0;
        case "and": return x != 0 && y != 0 ? 1 : 0;
        default: return x != 0 || y != 0 ? 1 : 0;
      }
    }
    static long cut(long v) { return v > 1000000 ? 1000000 : v < -1000000 ? -1000000 : v; }
    public void names(Set<String> into) { a.names(into); b.names(into); }
  }
  record If(Tree ask, Tree then, Tree otherwise) implements Tree {
    public long ask(Place p) { return ask.ask(p) != 0 ? then.ask(p) : otherwise.ask(p); }
    public void names(Set<String> into) { ask.names(into); then.names(into); otherwise.names(into); }
  }

  // ---- TEXTS ----

  static final class Clause { String kind; int field = -1; Tree at, of, to; int n, m; Set<String> named = new HashSet<>(); }

  static final class Format {
    List<Clause> clauses = new ArrayList<>();
    Clause of(int field) {
      for (Clause c : clauses) if (c.field == field) return c;
      return null;
    }
    Tree rots() {
      for (Clause c : clauses) if (c.kind.equals("rots")) return c.at;
      return null;
    }
    boolean hasSum() { return clauses.stream().anyMatch(c -> c.kind.equals("sum")); }
    Set<Integer> hangs(int field) {
      Set<Integer> on = new TreeSet<>();
      for (String s : of(field).named) if (s.length() == 1 && of(s.charAt(0) - 'a') != null) on.add(s.charAt(0) - 'a');
      return on;
    }
    List<Integer> order() {
      List<Integer> in = new ArrayList<>();
      boolean more = true;
      while (more) {
        more = false;
        for (int f = 0; f < 8 && !more; f++) {
          if (of(f) != null && !in.contains(f) && in.containsAll(hangs(f))) { in.add(f); more = true; }
        }
      }
      return in;
    }
    boolean ring(int f) { return of(f) != null && !order().contains(f); }
  }

  static final class Fault extends RuntimeException {
    final int number, place;
    Fault(int number, int place) { super(null, null, false, false); this.number = number; this.place = place; }
  }

  record Token(String s, int at) { boolean word() { return !s.isEmpty() && Character.isLetter(s.charAt(0)) && s.charAt(0) < 128; }
    boolean digits() { return !s.isEmpty() && s.charAt(0) >= '0' && s.charAt(0) <= '9'; } }

  /** All tokens; what is none is a token "?" and ends them; behind the last one stands "" at the length. */
  static List<Token> tokens(int[] tape, int length) {
    StringBuilder b = new StringBuilder();
    for (int i = 0; i < length; i++) b.append((char) tape[i]);
    String s = b.toString();
    List<Token> all = new ArrayList<>();
    java.util.regex.Matcher m = java.util.regex.Pattern.compile("[ \\n]*([a-zA-Z]+|[0-9]+|<=|>=|[<>=#+\\-*/();])").matcher(s);
    int at = 0;
    while (m.find(at) && m.start() == at) { all.add(new Token(m.group(1), m.start(1))); at = m.end(); if (at == s.length()) break; }
    while (at < s.length() && (s.charAt(at) == ' ' || s.charAt(at) == '\n')) at++;
    all.add(at < s.length() ? new Token("?", at) : new Token("", s.length()));
    return all;
  }

  static final class Reads {
    final List<Token> tokens; int i = 0; int open = 0; Clause clause; final Format format = new Format();
    Reads(List<Token> tokens) { this.tokens = tokens; }
    Token now() { return tokens.get(i); }
    Fault fault(int n) { return new Fault(n, now().at); }
    void take(String s) { if (!now().s.equals(s)) throw fault(1); i++; }
    boolean is(String s) { return now().s.equals(s); }

    Format all() {
      while (!is("")) clause();
      return format;
    }
    void clause() {
      clause = new Clause();
      clause.kind = now().s;
      if (!List.of("num", "sum", "nest", "must", "rots", "set", "size", "mend", "day").contains(clause.kind)) throw fault(1);
      if (is("rots") && format.rots() != null) throw fault(4);
      if (format.clauses.size() == 24) throw fault(6);
      i++;
      switch (clause.kind) {
        case "must": clause.at = either(); break;
        case "rots": clause.at = sum(); break;
        case "set": clause.n = number(0, 39); take("to"); clause.m = number(0, 255); break;
        case "size": clause.n = number(0, 40); break;
        case "day": clause.n = number(1, 60); break;
        case "mend": break;
        default:
          if (!now().s.matches("[a-h]")) throw fault(1);
          int f = now().s.charAt(0) - 'a';
          if (format.of(f) != null) throw fault(4);
          i++;
          take("at"); clause.at = sum();
          if (clause.kind.equals("sum")) { take("of"); clause.of = sum(); }
          take("to"); clause.to = sum();
          clause.field = f;
      }
      take(";");
      for (Tree t : new Tree[] {clause.at, clause.of, clause.to}) if (t != null) t.names(clause.named);
      format.clauses.add(clause);
    }
    int number(int least, int most) {
      if (!now().digits()) throw fault(1);
      int n = value();
      if (n < least || n > most) throw fault(2);
      i++;
      return n;
    }
    int value() { return new java.math.BigInteger(now().s).min(java.math.BigInteger.valueOf(10000)).intValue(); }
    Tree sum() {
      Tree t = product();
      while (is("+") || is("-")) { String op = now().s; i++; t = new Two(op, t, product()); }
      return t;
    }
    Tree product() {
      Tree t = one();
      while (is("*") || is("/")) { String op = now().s; i++; t = new Two(op, t, one()); }
      return t;
    }
    void open() { if (open == 8) throw fault(3); open++; i++; }
    Tree one() {
      if (now().digits()) { if (value() > 9999) throw fault(2); int n = value(); i++; return new Num(n); }
      String s = now().s;
      if (s.equals("(")) { open(); Tree t = sum(); take(")"); open--; return t; }
      if (s.equals("-") || s.equals("peek")) { open(); Tree t = one(); open--; return new One(s, t); }
      if (s.equals("if")) {
        open(); Tree e = either(); take("then"); Tree a = sum(); take("else"); Tree b = sum(); take("end"); open--;
        return new If(e, a, b);
      }
      boolean law = clause.kind.equals("rots");
      if (!s.matches("size|deep|day|place|old|[a-h]")) throw fault(1);
      if (!s.equals("size") && law != s.matches("day|place|old")) throw fault(5);
      i++;
      return new Name(s);
    }
    Tree either() {
      Tree t = both();
      while (is("or")) { i++; t = new Two("or", t, both()); }
      return t;
    }
    Tree both() {
      Tree t = ask();
      while (is("and")) { i++; t = new Two("and", t, ask()); }
      return t;
    }
    Tree ask() {
      if (is("not")) { open(); Tree t = ask(); open--; return new One("not", t); }
      Tree a = sum();
      String op = now().s;
      if (!List.of("<", "<=", ">", ">=", "=", "#").contains(op)) throw fault(1);
      i++;
      return new Two(op, a, sum());
    }
  }

  // ---- A FORMAT read ----

  static final class Read {
    long[] value = new long[8]; int[] from = new int[8], to = new int[8], how = new int[8];
    List<Set<Integer>> own = new ArrayList<>();
    Read[] inner = new Read[8];
    int firstMust = -1; Set<Integer> mustLooks = new TreeSet<>();
    int deepest = 0;
    boolean sound() { return Arrays.stream(how).noneMatch(h -> h == 1 || h == 2) && firstMust == -1; }
    boolean known(int f) { return how[f] == 0 || how[f] == 2; }
    Set<Integer> all() {
      Set<Integer> s = new TreeSet<>(mustLooks);
      for (Set<Integer> o : own) s.addAll(o);
      return s;
    }
  }

  static Read read(Format t, int[] bytes, int base, int size, int deep) {
    Read r = new Read();
    r.deepest = deep;
    for (int f = 0; f < 8; f++) {
      r.own.add(new TreeSet<>());
      r.how[f] = t.of(f) == null ? 3 : 1;
      r.value[f] = r.from[f] = r.to[f] = t.of(f) == null ? 0 : -1;
    }
    for (int f : t.order()) readField(t, r, f, bytes, base, size, deep);
    for (int i = t.clauses.size() - 1; i >= 0; i--) {
      Clause c = t.clauses.get(i);
      if (!c.kind.equals("must")) continue;
      boolean broken = false;
      for (String s : c.named) broken |= s.length() == 1 && r.how[s.charAt(0) - 'a'] == 1;
      Place p = place(r, bytes, base, size, deep);
      if (broken || c.at.ask(p) == 0) r.firstMust = i;
      r.mustLooks.addAll(p.looked);
    }
    return r;
  }

  static Place place(Read r, int[] bytes, int base, int size, int deep) {
    Place p = new Place();
    p.bytes = bytes; p.base = base; p.size = size; p.deep = deep;
    for (int f = 0; f < 8; f++) p.values[f] = r.value[f];
    return p;
  }

  static void readField(Format t, Read r, int f, int[] bytes, int base, int size, int deep) {
    Clause c = t.of(f);
    for (int g : t.hangs(f)) if (r.how[g] == 1) return;
    Place p = place(r, bytes, base, size, deep);
    long from = c.at.ask(p), of = c.of == null ? from : c.of.ask(p), to = c.to.ask(p);
    Set<Integer> own = r.own.get(f);
    own.addAll(p.looked);
    if (of < 0 || of > to || to > size) return;
    if (c.kind.equals("sum") && (from < 0 || from >= size)) return;
    if (c.kind.equals("num") && to - from > 3) return;
    if (c.kind.equals("nest") && (to - from >= size || deep == 2)) return;
    long v = 0;
    int how = 0;
    if (c.kind.equals("nest")) {
      Read in = read(t, bytes, base + (int) from, (int) (to - from), deep + 1);
      v = 1;
      for (int g = 0; g < 8; g++) if (t.of(g) != null && t.of(g).kind.equals("nest") && in.how[g] != 1) v += in.value[g];
      how = in.sound() ? 0 : 2;
      own.addAll(in.all());
      r.inner[f] = in;
      r.deepest = Math.max(r.deepest, in.deepest);
    } else {
      for (int i = (int) of; i < to; i++) {
        own.add(base + i);
        int b = bytes[base + i];
        v = c.kind.equals("num") ? v * 256 + b : v + (i == from ? 0 : b);
      }
      if (c.kind.equals("sum")) {
        v %= 256;
        own.add(base + (int) from);
        how = bytes[base + (int) from] == v ? 0 : 2;
        to = from + 1;
      }
    }
    r.value[f] = v;
    r.from[f] = (int) from;
    r.to[f] = (int) to;
    r.how[f] = how;
  }

  // ---- The state ----

  static final class Now {
    int[] bytes = new int[40]; int size, day, x = 479; List<int[]> book = new ArrayList<>();
    Now copy() {
      Now n = new Now();
      n.bytes = bytes.clone(); n.size = size; n.day = day; n.x = x; n.book = new ArrayList<>(book);
      return n;
    }
    void line(int what, int place, int value) {
      book.add(new int[] {day, what, place, value});
      if (book.size() > 25) book.remove(0);
    }
    int draw(int by) { int d = x % by; x = (x * 743 + 607) % 31079; return d; }
  }

  static final class World {
    Now now = new Now(); List<Now> steps = new ArrayList<>(); List<Format> texts = new ArrayList<>(); int ruling = -1;
    List<long[]> said = new ArrayList<>();
    World copy() {
      World w = new World();
      w.now = now.copy();
      for (Now s : steps) w.steps.add(s.copy());
      w.texts = new ArrayList<>(texts); w.ruling = ruling; w.said = new ArrayList<>(said);
      return w;
    }
  }

  World w = new World();
  World image = w.copy();
  int[] tape = new int[300];
  int tapeCount = 0, fault = -1, faultPlace = -1;

  Format text(int t) { return t >= 0 && t < w.texts.size() ? w.texts.get(t) : null; }
  static boolean field(int f) { return f >= 0 && f < 8; }
  static boolean in(long v, long a, long b) { return v >= a && v <= b; }
  Read file(Format t) { return read(t, w.now.bytes, 0, w.now.size, 0); }
  void step() { w.steps.add(w.now.copy()); if (w.steps.size() > 30) w.steps.remove(0); }

  int feed(int a, int b, int c, int d, int e) {
    if (tapeCount + 20 > 300) return -1;
    for (int v : new int[] {a, b, c, d, e}) for (int s = 24; s >= 0; s -= 8) tape[tapeCount++] = v >>> s & 255;
    return tapeCount;
  }
  int end(int n) { if (!in(n, 0, tapeCount)) return -1; tapeCount = n; return n; }
  int text() {
    if (w.texts.size() == 4) return -1;
    int length = tapeCount;
    tapeCount = 0;
    try {
      w.texts.add(new Reads(tokens(tape, length)).all());
      fault = 0;
      faultPlace = -1;
      return w.texts.size() - 1;
    } catch (Fault e) {
      fault = e.number;
      faultPlace = e.place;
      return -1;
    }
  }
  int fault(int what) { return what == 0 ? fault : what == 1 ? faultPlace : -1; }
  boolean by(int t) { if (t != -1 && text(t) == null) return false; w.ruling = t; return true; }

  static boolean set(Now n, int p, int v) {
    if (!in(p, 0, n.size - 1) || !in(v, 0, 255) || n.bytes[p] == v) return false;
    n.bytes[p] = v; n.line(0, p, v); return true;
  }
  static boolean size(Now n, int s) {
    if (!in(s, 0, 40) || n.size == s) return false;
    for (int i = s; i < 40; i++) n.bytes[i] = 0;
    n.size = s; n.line(1, s, 0); return true;
  }
  int mend(Now n) {
    Format t = text(w.ruling);
    if (t == null || !t.hasSum()) return -1;
    int[] b = n.bytes.clone();
    for (int round = 1; round <= 8; round++) {
      Read r = read(t, b, 0, n.size, 0);
      int[] c = b.clone();
      for (int f : t.order()) if (t.of(f).kind.equals("sum") && r.how[f] != 1) c[r.from[f]] = (int) r.value[f];
      if (Arrays.equals(b, c)) {
        int other = 0;
        for (int i = 0; i < 40; i++) if (b[i] != n.bytes[i]) other++;
        n.bytes = b;
        n.line(2, other, 0);
        return other;
      }
      b = c;
    }
    return -1;
  }
  boolean day(Now n) {
    boolean rotted = false;
    if (n.size > 0) {
      int p = n.draw(n.size), bit = n.draw(8), d = n.draw(10);
      long rots = 3;
      Format t = text(w.ruling);
      if (t != null && t.rots() != null) {
        Place at = new Place();
        at.bytes = n.bytes; at.size = n.size; at.day = n.day; at.place = p; at.old = n.bytes[p];
        rots = Math.max(0, Math.min(10, t.rots().ask(at)));
      }
      if (d < rots) { n.bytes[p] ^= 1 << bit; n.line(3, p, n.bytes[p]); rotted = true; }
    }
    n.day++;
    return rotted;
  }
  /** What is done to a copy becomes THE FILE, with a STEP, if it was done. */
  private boolean done(Now n, boolean so) { if (so) { step(); w.now = n; } return so; }
  boolean set(int p, int v) { Now n = w.now.copy(); return done(n, set(n, p, v)); }
  boolean size(int s) { Now n = w.now.copy(); return done(n, size(n, s)); }
  int mend() { Now n = w.now.copy(); int m = mend(n); done(n, m != -1); return m; }
  int day(int n) {
    if (!in(n, 1, 60) || w.now.day + n > 9999) return -1;
    int rotted = 0;
    for (int i = 0; i < n; i++) { step(); if (day(w.now)) rotted++; }
    return rotted;
  }
  int played(int text) {
    Format t = text(text);
    if (t == null) return -2;
    for (int i = 0; i < t.clauses.size(); i++) {
      Clause c = t.clauses.get(i);
      if (c.kind.equals("set") && !set(c.n, c.m)) return i;
      if (c.kind.equals("size") && !size(c.n)) return i;
      if (c.kind.equals("mend") && mend() == -1) return i;
      if (c.kind.equals("day")) for (int d = 0; d < c.n; d++) if (day(1) == -1) return i;
    }
    return -1;
  }
  int years(int seed, int n) {
    if (!in(seed, 0, 9999) || !in(n, 1, 40)) return -1;
    step();
    w.now.x = seed * 2 + 479;
    for (int i = 0; i < n; i++) {
      int x = w.now.x;
      w.now.draw(1);
      switch (x % 6) {
        case 0: set(w.now, x / 6 % 40, x % 256); break;
        case 1: if (x % 4 == 3) size(w.now, x / 6 % 41); break;
        case 2: if (x % 4 == 0) mend(w.now); break;
        default: if (w.now.day < 9999) day(w.now);
      }
    }
    return w.now.day;
  }
  int undo() {
    if (w.steps.isEmpty()) return -1;
    w.now = w.steps.remove(w.steps.size() - 1);
    return w.steps.size();
  }
  int at(int p) { return in(p, 0, 39) ? w.now.bytes[p] : -1; }
  int is(int what) {
    switch (what) {
      case 0: return w.now.day;
      case 1: return w.now.x;
      case 2: return w.now.size;
      case 3: return Arrays.stream(w.now.bytes).sum();
      default: return -2;
    }
  }
  int book(int i, int what) {
    if (i == -1) return w.now.book.size();
    if (!in(i, 0, w.now.book.size() - 1) || !in(what, 0, 3)) return -2;
    return w.now.book.get(i)[what];
  }
  int foretold(int n, int p) {
    if (!in(n, 1, 60) || !in(p, 0, 39)) return -1;
    Now c = w.now.copy();
    for (int i = 0; i < n; i++) if (c.day < 9999) day(c);
    return c.bytes[p];
  }
  boolean valid(int t) { return text(t) != null && file(text(t)).sound(); }
  int told(Read r, int f, int what) {
    if (!in(what, 0, 3)) return -2;
    if (what == 3) return r.how[f];
    if (r.how[f] == 3) return -2;
    return what == 0 ? (int) r.value[f] : what == 1 ? r.from[f] : r.to[f];
  }
  int field(int t, int f, int what) { return text(t) == null || !field(f) ? -2 : told(file(text(t)), f, what); }
  int inside(int t, int nest, int f, int what) {
    if (text(t) == null || !field(nest) || !field(f)) return -2;
    Read in = file(text(t)).inner[nest];
    return in == null ? -2 : told(in, f, what);
  }
  int order(int t, int i) { return text(t) == null || !in(i, 0, text(t).order().size() - 1) ? -1 : text(t).order().get(i); }
  int ring(int t) {
    if (text(t) == null) return -1;
    int bits = 0;
    for (int f = 0; f < 8; f++) if (text(t).ring(f)) bits |= 1 << f;
    return bits;
  }
  int overlap(int t, int f) {
    if (text(t) == null || !field(f)) return -1;
    Read r = file(text(t));
    if (!r.known(f)) return -1;
    int bits = 0;
    for (int g = 0; g < 8; g++) for (int p = 0; p < 40; p++) if (g != f && r.known(g) && has(r, f, p) && has(r, g, p)) bits |= 1 << g;
    return bits;
  }
  static boolean has(Read r, int f, int p) { return r.from[f] <= p && p < r.to[f]; }
  long loose(int t) {
    if (text(t) == null) return -1;
    Read r = file(text(t));
    long bits = 0;
    for (int p = 0; p < w.now.size; p++) {
      boolean in = false;
      for (int f = 0; f < 8; f++) in |= r.known(f) && has(r, f, p);
      if (!in) bits |= 1L << p;
    }
    return bits;
  }
  long needs(int t, int f) {
    if (text(t) == null || !field(f) || text(t).of(f) == null) return -1;
    if (text(t).ring(f)) return 0;
    Read r = file(text(t));
    Set<Integer> on = new TreeSet<>(List.of(f));
    for (int again = 0; again < 8; again++) for (int g : new ArrayList<>(on)) on.addAll(text(t).hangs(g));
    long bits = 0;
    for (int g : on) for (int p : r.own.get(g)) bits |= 1L << p;
    return bits;
  }
  int flips(int t, int p) {
    if (text(t) == null || !in(p, 0, w.now.size - 1)) return -1;
    int[] b = w.now.bytes.clone();
    b[p] = 255 - b[p];
    Read r = file(text(t)), s = read(text(t), b, 0, w.now.size, 0);
    int bits = 0;
    for (int f = 0; f < 8; f++) if (r.value[f] != s.value[f] || r.how[f] != s.how[f]) bits |= 1 << f;
    return bits;
  }
  boolean sure(int t, int f) {
    if (text(t) == null || !field(f) || text(t).of(f) == null) return false;
    Clause c = text(t).of(f);
    if (!c.kind.equals("nest")) return false;
    for (String s : c.named) if (!s.equals("size")) return false;
    for (int size = 1; size <= 40; size++) {
      Place p = new Place();
      p.bytes = new int[40];
      p.size = size;
      long from = c.at.ask(p), to = c.to.ask(p);
      if (0 <= from && from <= to && to <= size && to - from >= size) return false;
    }
    return true;
  }
  int least(int t) {
    if (text(t) == null) return -1;
    for (int n = 0; n <= 40; n++) {
      int[] b = new int[40];
      System.arraycopy(w.now.bytes, 0, b, 0, Math.min(n, w.now.size));
      if (read(text(t), b, 0, n, 0).sound()) return n;
    }
    return -1;
  }
  int make(int t, int f, int v) {
    if (text(t) == null || !field(f) || !in(v, 0, 16777215) || text(t).of(f) == null) return -1;
    for (int p = 0; p < w.now.size; p++) {
      for (int b = 0; b < 256; b++) {
        int[] c = w.now.bytes.clone();
        if (c[p] == b) continue;
        c[p] = b;
        Read r = read(text(t), c, 0, w.now.size, 0);
        if (r.known(f) && r.value[f] == v) return 256 * p + b;
      }
    }
    return -1;
  }
  int alike(int t, int o) {
    if (text(t) == null || text(o) == null) return -1;
    Read r = file(text(t)), s = file(text(o));
    int bits = 0;
    for (int f = 0; f < 8; f++) if (r.how[f] != 3 && r.how[f] == s.how[f] && r.value[f] == s.value[f]) bits |= 1 << f;
    return bits;
  }
  int must(int t) { return text(t) == null ? -1 : file(text(t)).firstMust; }
  int deep(int t) { return text(t) == null ? -1 : file(text(t)).deepest; }
  int kind(int t, int f) {
    if (text(t) == null || !field(f) || text(t).of(f) == null) return -1;
    return List.of("num", "sum", "nest").indexOf(text(t).of(f).kind);
  }
  int number(int from, int to) {
    if (!(0 <= from && from <= to && to <= w.now.size) || to - from > 3) return -1;
    int n = 0;
    for (int p = from; p < to; p++) n = n * 256 + w.now.bytes[p];
    return n;
  }
  int sum(int from, int to) {
    if (!(0 <= from && from <= to && to <= w.now.size)) return -1;
    int n = 0;
    for (int p = from; p < to; p++) n += w.now.bytes[p];
    return n;
  }
  int find(int v, int from) {
    if (!in(v, 0, 255) || !in(from, 0, w.now.size)) return -1;
    for (int p = from; p < w.now.size; p++) if (w.now.bytes[p] == v) return p;
    return -1;
  }
  int run() {
    int best = 0;
    for (int a = 0; a < w.now.size; a++) {
      int b = a;
      while (b < w.now.size && w.now.bytes[b] == w.now.bytes[a]) b++;
      best = Math.max(best, b - a);
    }
    return best;
  }
  int said(int f, int v) {
    if (f == -1) { w.said.clear(); return 0; }
    if (!field(f) || !in(v, 0, 16777215) || w.said.size() == 8) return -2;
    w.said.add(new long[] {f, v});
    return w.said.size();
  }
  int whose() {
    int bits = 0;
    for (int t = 0; t < w.texts.size(); t++) {
      Read r = file(text(t));
      boolean all = true;
      for (long[] s : w.said) all &= r.known((int) s[0]) && r.value[(int) s[0]] == s[1];
      if (all) bits |= 1 << t;
    }
    return bits;
  }
  int ledger(int what) { return !in(what, 0, 3) ? -2 : (int) w.now.book.stream().filter(l -> l[1] == what).count(); }
  int image() { image = w.copy(); return w.now.day; }
  int back() { w = image.copy(); return w.now.day; }
  int about(int what) {
    switch (what) {
      case 0: return w.texts.size();
      case 1: return w.ruling;
      case 2: return w.steps.size();
      case 3: return w.said.size();
      case 4: return tapeCount;
      default: return -2;
    }
  }
}
