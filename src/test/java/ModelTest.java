import java.util.ArrayList;
import java.util.List;
import java.util.Random;

/** Drawn runs of calls, each asked of the program and of the model. */
public final class ModelTest {
  private static final int RUNS = Integer.getInteger("runs", 1500);
  private static final int FIRST = Integer.getInteger("first", 0);

  public static void main(String[] args) {
    int[] faults = new int[7];
    for (int i = FIRST; i < FIRST + RUNS && Check.wrong() == 0; i++) new Run(i, faults).go();
    StringBuilder b = new StringBuilder("texts by fault:");
    for (int f : faults) b.append(' ').append(f);
    System.out.println(b);
    Check.close();
  }

  private static final class Run {
    final int seed; final Random random; final Texts texts; final int[] faults;
    final ByteIntervals x = new ByteIntervals();
    final Model m = new Model();
    final StringBuilder told = new StringBuilder();

    Run(int seed, int[] faults) {
      this.seed = seed;
      this.faults = faults;
      random = new Random(seed * 7919L + 17);
      texts = new Texts(random);
    }

    int below(int n) { return random.nextInt(n); }
    int odd(int n) { return below(25) == 0 ? new int[] {-1, -2, n, n + 1, Integer.MAX_VALUE, Integer.MIN_VALUE}[below(6)] : below(n); }
    int text() { return below(30) == 0 ? odd(4) : below(Math.max(1, m.w.texts.size())); }
    int field() { return below(6) == 0 ? odd(8) : below(4); }

    /** Mostly one that the TEXT tells, of a kind (null: of any). */
    int fieldOf(int text, String kind) {
      List<Integer> told = new ArrayList<>();
      if (m.text(text) != null) for (Model.Clause c : m.text(text).clauses) if (c.field >= 0 && (kind == null || c.kind.equals(kind))) told.add(c.field);
      return told.isEmpty() || below(6) == 0 ? field() : told.get(below(told.size()));
    }

    /** A new file: small numbers first, so that what is told by them comes to something. */
    void fill() {
      for (int i = 0; i < m.w.now.size && i < 10; i++) {
        int v = below(4) == 0 ? below(256) : below(5);
        due("set " + i + " " + v, x.set(i, v), m.set(i, v));
      }
    }
    int place() { return below(8) == 0 ? odd(40) : below(Math.max(1, m.w.now.size)); }

    void due(String call, long got, long want) {
      told.append(call).append(" = ").append(want).append('\n');
      if (got != want) System.out.println("run " + seed + ":\n" + told);
      Check.due("run " + seed + ": " + call, got, want);
    }

    void due(String call, boolean got, boolean want) { due(call, got ? 1 : 0, want ? 1 : 0); }

    void go() {
      boolean large = below(10) == 0;
      due("size", x.size(large ? 40 : 8), m.size(large ? 40 : 8));
      for (int calls = 2; calls < 500 && Check.wrong() == 0; ) {
        calls += step(large);
      }
    }

    int step(boolean large) {
      int a = below(100);
      if (a < 5 || m.w.texts.isEmpty() && a < 40) return giveText();
      if (a < 20) return change();
      if (a < 22) return raw();
      if (a < 24) { fill(); return 10; }
      if (a < 30) return whole();
      for (int i = 0; i < 3; i++) ask(large);
      return 3;
    }

    int giveText() {
      if (m.w.texts.size() == 4 && below(3) != 0) {
        due("back", x.back(), m.back());
        return 1;
      }
      String t = texts.draw();
      told.append("TEXT ").append(t).append('\n');
      x.end(0);
      m.end(0);
      for (int i = 0; i < t.length(); i += 20) {
        int[] r = Check.five(t, i);
        due("feed", x.feed(r[0], r[1], r[2], r[3], r[4]), m.feed(r[0], r[1], r[2], r[3], r[4]));
      }
      due("end " + t.length(), x.end(t.length()), m.end(t.length()));
      due("text", x.text(), m.text());
      due("about 4", x.about(4), m.about(4));
      due("fault 0", x.fault(0), m.fault(0));
      due("fault 1", x.fault(1), m.fault(1));
      if (m.fault >= 0) faults[m.fault]++;
      int by = below(4) == 0 ? odd(4) : m.w.texts.size() - 1;
      due("by " + by, x.by(by), m.by(by));
      return 22;
    }

    int raw() {
      int[] r = {random.nextInt(), random.nextInt(), random.nextInt(), random.nextInt(), random.nextInt()};
      due("feed", x.feed(r[0], r[1], r[2], r[3], r[4]), m.feed(r[0], r[1], r[2], r[3], r[4]));
      int n = below(2) == 0 ? odd(30) : m.tapeCount;
      due("end " + n, x.end(n), m.end(n));
      if (below(3) == 0) due("text", x.text(), m.text());
      return 3;
    }

    int change() {
      int p = place();
      int v = below(10) == 0 ? odd(256) : below(3) == 0 ? below(256) : below(8);
      switch (below(12)) {
        case 0:
        case 1:
        case 2:
        case 3: due("set " + p + " " + v, x.set(p, v), m.set(p, v)); return 1;
        case 4:
        case 5: v = below(2) == 0 ? odd(41) : below(10); due("size " + v, x.size(v), m.size(v)); return 1;
        case 6: due("mend", x.mend(), m.mend()); return 1;
        case 7: v = below(6) == 0 ? odd(61) : 1 + below(5); due("day " + v, x.day(v), m.day(v)); return 1;
        case 8: v = text(); due("played " + v, x.played(v), m.played(v)); return 1;
        case 9: p = odd(10000); v = odd(41); due("years " + p + " " + v, x.years(p, v), m.years(p, v)); return 1;
        case 10: v = 6 + below(5); due("size " + v, x.size(v), m.size(v)); return 1;
        default: due("undo", x.undo(), m.undo()); return 1;
      }
    }

    int whole() {
      if (below(4) == 0) due("image", x.image(), m.image());
      if (below(6) == 0) due("back", x.back(), m.back());
      for (int i = -1; i < 5; i++) due("is " + i, x.is(i), m.is(i));
      for (int i = -1; i < 6; i++) due("about " + i, x.about(i), m.about(i));
      int i = odd(26), what = odd(4);
      due("book " + i + " " + what, x.book(i, what), m.book(i, what));
      due("book -1", x.book(-1, what), m.book(-1, what));
      due("ledger " + what, x.ledger(what), m.ledger(what));
      due("run", x.run(), m.run());
      due("whose", x.whose(), m.whose());
      return 18;
    }

    void ask(boolean large) {
      int t = text(), f = fieldOf(t, null), p = place(), q = place(), what = odd(4);
      String by = " " + t + " " + f;
      switch (below(30)) {
        case 0: due("at " + p, x.at(p), m.at(p)); return;
        case 1: q = below(4) == 0 ? odd(61) : 1 + below(4); due("foretold " + q + " " + p, x.foretold(q, p), m.foretold(q, p)); return;
        case 2: due("valid " + t, x.valid(t), m.valid(t)); return;
        case 3:
        case 4:
        case 5: due("field" + by + " " + what, x.field(t, f, what), m.field(t, f, what)); return;
        case 6:
        case 7:
        case 8: f = fieldOf(t, "nest"); by = " " + t + " " + f; q = fieldOf(t, null); due("inside" + by + " " + q + " " + what, x.inside(t, f, q, what), m.inside(t, f, q, what)); return;
        case 9: q = odd(8); due("order " + t + " " + q, x.order(t, q), m.order(t, q)); return;
        case 10: due("ring " + t, x.ring(t), m.ring(t)); return;
        case 11:
        case 12: due("overlap" + by, x.overlap(t, f), m.overlap(t, f)); return;
        case 13: due("loose " + t, x.loose(t), m.loose(t)); return;
        case 14:
        case 15:
        case 16: due("needs" + by, x.needs(t, f), m.needs(t, f)); return;
        case 17: due("flips " + t + " " + p, x.flips(t, p), m.flips(t, p)); return;
        case 18: f = fieldOf(t, "nest"); due("sure" + by, x.sure(t, f), m.sure(t, f)); return;
        case 19: due("least " + t, x.least(t), m.least(t)); return;
        case 20: if (!large || below(20) == 0) make(t, f); return;
        case 21: q = text(); due("alike " + t + " " + q, x.alike(t, q), m.alike(t, q)); return;
        case 22: due("must " + t, x.must(t), m.must(t)); return;
        case 23: due("deep " + t, x.deep(t), m.deep(t)); return;
        case 24: due("kind" + by, x.kind(t, f), m.kind(t, f)); return;
        case 25: due("number " + p + " " + q, x.number(p, q), m.number(p, q)); return;
        case 26: due("sum " + p + " " + q, x.sum(p, q), m.sum(p, q)); return;
        case 27: q = odd(256); due("find " + q + " " + p, x.find(q, p), m.find(q, p)); return;
        default: say(t, f);
      }
    }

    void make(int t, int f) {
      int v = below(2) == 0 ? below(3) : below(2) == 0 ? odd(256) : odd(16777216);
      if (below(3) == 0) v = m.field(t, f, 0);
      due("make " + t + " " + f + " " + v, x.make(t, f, v), m.make(t, f, v));
    }

    void say(int t, int f) {
      int v = below(8) == 0 ? odd(16777216) : m.field(t, f, 0);
      if (below(5) == 0) f = -1;
      due("said " + f + " " + v, x.said(f, v), m.said(f, v));
      due("whose", x.whose(), m.whose());
    }
  }
}
