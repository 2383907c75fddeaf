/** Every promise of the document: ordinary inputs, the edges that it names, wrong inputs. */
public final class PromisesTest {
  private static final int MAX = Integer.MAX_VALUE;
  private static final int MIN = Integer.MIN_VALUE;

  public static void main(String[] args) {
    newObject();
    feedAndEnd();
    textAndFault();
    faultsOfTokens();
    faultsOfNumbers();
    faultsOfNames();
    faultsOfDepth();
    by();
    setAndSize();
    mend();
    days();
    rots();
    played();
    years();
    undo();
    looks();
    book();
    foretold();
    arithmetic();
    validAndMust();
    field();
    inside();
    orderAndRing();
    overlapAndLoose();
    needs();
    flips();
    sure();
    least();
    make();
    alike();
    deepAndKind();
    saidAndWhose();
    imageAndBack();
    about();
    Check.close();
  }

  private static void due(String what, long got, long want) { Check.due(what, got, want); }
  private static void due(String what, boolean got, boolean want) { Check.due(what, got, want); }

  /** A new object with one TEXT, by which nothing is yet, and these bytes. */
  private static ByteIntervals with(String text, int... bytes) {
    ByteIntervals x = Check.file(bytes);
    due("text " + text, Check.text(x, text), 0);
    return x;
  }

  /** The value of a SUM: of num a it is FROM, the interval being all 40 bytes. */
  private static void sumIs(String sum, int want, int... bytes) {
    ByteIntervals x = Check.file(bytes);
    x.size(40);
    due("text of " + sum, Check.text(x, "num a at " + sum + " to " + sum + ";"), 0);
    due(sum, x.field(0, 0, 1), want);
  }

  private static void asked(String either, boolean so, int... bytes) {
    ByteIntervals x = with("must " + either + ";", bytes);
    due(either, x.must(0), so ? -1 : 0);
  }

  private static void faulty(String text, int fault, int place) {
    ByteIntervals x = new ByteIntervals();
    due("text " + text, Check.text(x, text), fault == 0 ? 0 : -1);
    due("fault of " + text, x.fault(0), fault);
    due("place of " + text, x.fault(1), fault == 0 ? -1 : place);
    due("the tape behind " + text, x.about(4), 0);
  }

  private static void newObject() {
    ByteIntervals x = new ByteIntervals();
    due("NONE", ByteIntervals.NONE, -1);
    int[] is = {0, 479, 0, 0};
    for (int i = 0; i < 4; i++) due("is " + i, x.is(i), is[i]);
    int[] about = {0, -1, 0, 0, 0};
    for (int i = 0; i < 5; i++) due("about " + i, x.about(i), about[i]);
    due("book", x.book(-1, 0), 0);
    due("whose", x.whose(), 0);
    due("undo", x.undo(), -1);
    x.size(5);
    x.day(3);
    due("back to the new object", x.back(), 0);
    due("size as new", x.is(2), 0);
    due("x as new", x.is(1), 479);
    due("steps as new", x.about(2), 0);
  }

  private static void feedAndEnd() {
    ByteIntervals x = new ByteIntervals();
    due("end 0", x.end(0), 0);
    due("end 1 of none", x.end(1), -1);
    for (int i = 1; i <= 15; i++) due("feed", x.feed(0, MAX, MIN, -1, i), 20 * i);
    due("feed beyond 300", x.feed(0, 0, 0, 0, 0), -1);
    due("tape full", x.about(4), 300);
    due("end beyond", x.end(301), -1);
    due("end below", x.end(-1), -1);
    due("end least", x.end(MIN), -1);
    due("end most", x.end(MAX), -1);
    due("tape still full", x.about(4), 300);
    due("end 281", x.end(281), 281);
    due("281 and 20 are beyond", x.feed(0, 0, 0, 0, 0), -1);
    due("end 280", x.end(280), 280);
    due("280 and 20 fit", x.feed(0, 0, 0, 0, 0), 300);
    // The highest byte first: "must", " 1=1", "; r", "ots ", "7; m".
    x.end(0);
    x.feed(0x6d757374, 0x20313d31, 0x3b20726f, 0x74732037, 0x3b206d21);
    x.end(18);
    due("text of bytes in order", x.text(), 0);
  }

  private static void textAndFault() {
    ByteIntervals x = new ByteIntervals();
    due("fault ahead of any", x.fault(0), -1);
    due("place ahead of any", x.fault(1), -1);
    due("an empty TEXT", x.text(), 0);
    due("fault of it", x.fault(0), 0);
    due("place of it", x.fault(1), -1);
    due("an empty TEXT is VALID", x.valid(0), true);
    due("others", x.fault(2), -1);
    due("others", x.fault(-1), -1);
    due("second", Check.text(x, "mend;"), 1);
    due("bad", Check.text(x, "mend;?"), -1);
    due("its fault", x.fault(0), 1);
    due("its place", x.fault(1), 5);
    due("empty behind it", x.about(4), 0);
    due("not one more", x.about(0), 2);
    due("third", Check.text(x, " \n mend \n ; \n"), 2);
    due("fourth", Check.text(x, "size 3;"), 3);
    due("four there", Check.text(x, "mend;?"), -1);
    due("the tape stays", x.about(4), 6);
    due("not read", x.fault(0), 0);
    due("four", x.about(0), 4);
    String all = "num h at 0 to 1;" + " ".repeat(283) + "\n";
    ByteIntervals y = new ByteIntervals();
    due("300 bytes", Check.text(y, all), 0);
  }

  private static void faultsOfTokens() {
    faulty("Num a at 0 to 1;", 1, 0);
    faulty("nums a at 0 to 1;", 1, 0);
    faulty("num a at 0 to 1", 1, 15);
    faulty("num a at 0 to 1 ", 1, 16);
    faulty("num a at 0 to", 1, 13);
    faulty("num A at 0 to 1;", 1, 4);
    faulty("num ab at 0 to 1;", 1, 4);
    faulty("num size at 0 to 1;", 1, 4);
    faulty("num a to 0 to 1;", 1, 6);
    faulty("num a at 0 to 1;;", 1, 16);
    faulty("num a at 0 of 0 to 1;", 1, 11);
    faulty("nest a at 0 of 0 to 1;", 1, 12);
    faulty("sum a at 0 to 1;", 1, 11);
    faulty("sum a at 0 of 0 to 1;", 0, 0);
    faulty("num a at 0 to 1 2;", 1, 16);
    faulty("num a at 0 to +1;", 1, 14);
    faulty("num a at 0 to 1+;", 1, 16);
    faulty("num a at 0 to (1;", 1, 16);
    faulty("num a at 0 to 1);", 1, 15);
    faulty("num a at 0 to if 1=1 then 1 else 2;", 1, 34);
    faulty("num a at 0 to if 1=1 then 1 end;", 1, 28);
    faulty("num a at 0 to if 1=1 else 1 end;", 1, 21);
    faulty("num a at not 1=1 to 1;", 1, 9);
    faulty("must 1=1=1;", 1, 8);
    faulty("must (1=1);", 1, 7);
    faulty("must 1 < = 2;", 1, 9);
    faulty("must 1 => 2;", 1, 8);
    faulty("must 1<=2;must 1>=2;must 1#2;must 1>2;must 1<2;", 0, 0);
    faulty("must 1!2;", 1, 6);
    faulty("must\t1=1;", 1, 4);
    faulty("must 1=1 and;", 1, 12);
    faulty("must 1=1 or not;", 1, 15);
    faulty("must not not 1=1 and 1=2 or 1=3;", 0, 0);
    faulty("set 0 1;", 1, 6);
    faulty("set a to 1;", 1, 4);
    faulty("set -1 to 1;", 1, 4);
    faulty("size;", 1, 4);
    faulty("size (3);", 1, 5);
    faulty("day size;", 1, 4);
    faulty("mend", 1, 4);
    faulty("", 0, 0);
    faulty("\u0000", 1, 0);
    faulty("  \u00ff", 1, 2);
    faulty("num a at 1e to 2;", 1, 10);
    faulty("numa at 0 to 1;", 1, 0);
    faulty("rots size*-2/-size--1;", 0, 0);
  }

  private static void faultsOfNumbers() {
    faulty("rots 9999;", 0, 0);
    faulty("rots 10000;", 2, 5);
    faulty("rots 0009999;", 0, 0);
    faulty("rots 99999999999999999999;", 2, 5);
    faulty("rots 4294967296;", 2, 5);
    faulty("rots 1 10000;", 1, 7);
    faulty("set 39 to 255;", 0, 0);
    faulty("set 40 to 255;", 2, 4);
    faulty("set 39 to 256;", 2, 10);
    faulty("size 0;size 40;", 0, 0);
    faulty("size 41;", 2, 5);
    faulty("day 0;", 2, 4);
    faulty("day 1;day 60;", 0, 0);
    faulty("day 61;", 2, 4);
    faulty("day 010;", 0, 0);
  }

  private static void faultsOfNames() {
    faulty("num a at 0 to 1;sum a at 0 of 0 to 1;", 4, 20);
    faulty("num a at 0 to 1;nest a", 4, 21);
    faulty("rots 1;must 1=1;rots", 4, 16);
    faulty("num a at a to h;", 0, 0);
    faulty("num a at i to h;", 1, 9);
    faulty("num a at to to h;", 1, 9);
    faulty("num a at deep to size;must deep=size;", 0, 0);
    faulty("rots size+day+place+old+peek 3;", 0, 0);
    faulty("rots deep;", 5, 5);
    faulty("rots h;", 5, 5);
    faulty("rots i;", 1, 5);
    faulty("must day=1;", 5, 5);
    faulty("must 1=place;", 5, 7);
    faulty("num a at old to 1;", 5, 9);
    faulty("mend;".repeat(24), 0, 0);
    faulty("mend;".repeat(24) + "mend;", 6, 120);
    faulty("mend;".repeat(24) + " x", 1, 121);
    faulty("rots 1;" + "mend;".repeat(23) + "rots", 4, 122);
    faulty("num a at 0 to 1;" + "mend;".repeat(23) + "num a", 6, 131);
  }

  private static void faultsOfDepth() {
    faulty("rots " + "(".repeat(8) + "1" + ")".repeat(8) + ";", 0, 0);
    faulty("rots " + "(".repeat(9) + "1", 3, 13);
    faulty("rots " + "-".repeat(8) + "1;", 0, 0);
    faulty("rots " + "-".repeat(9) + "1;", 3, 13);
    faulty("rots 1" + "-1".repeat(20) + ";", 0, 0);
    faulty("rots 1" + "-(1)".repeat(20) + ";", 0, 0);
    faulty("rots 1" + "+-1".repeat(20) + ";", 0, 0);
    faulty("rots 1" + "*peek 1".repeat(20) + ";", 0, 0);
    faulty("must " + "not ".repeat(8) + "1=1;", 0, 0);
    faulty("must " + "not ".repeat(9) + "1=1;", 3, 37);
    faulty("must " + "not ".repeat(8) + "1=(1);", 3, 39);
    faulty("must " + "not ".repeat(7) + "(1)=(1) and (1)=1;", 0, 0);
    faulty("rots " + "if 1=1 then ".repeat(8) + "(1)", 3, 101);
    faulty("rots " + "if 1=1 then ".repeat(8) + "1" + " else 1 end".repeat(8) + ";", 0, 0);
    faulty("rots if 1=1 then 1 else 1 end" + "+if 1=1 then 1 else 1 end".repeat(9) + ";", 0, 0);
    faulty("rots -(peek -(peek -(1;", 1, 22);
    faulty("rots -(peek -(peek -(-(1", 3, 21);
    faulty("rots ((((((((a", 5, 13);
  }

  private static void by() {
    ByteIntervals x = with("rots 10;", 0, 0);
    due("by 1", x.by(1), false);
    due("by -2", x.by(-2), false);
    due("by most", x.by(MAX), false);
    due("by 0", x.by(0), true);
    due("rules", x.about(1), 0);
    due("all rots", x.day(10), 10);
    due("by none", x.by(-1), true);
    due("none rules", x.about(1), -1);
    due("by none again", x.by(-1), true);
  }

  private static void setAndSize() {
    ByteIntervals x = new ByteIntervals();
    due("set in no file", x.set(0, 1), false);
    due("size 40", x.size(40), true);
    due("size as it is", x.size(40), false);
    due("size 41", x.size(41), false);
    due("size -1", x.size(-1), false);
    due("size most", x.size(MAX), false);
    due("set last", x.set(39, 255), true);
    due("set as it is", x.set(39, 255), false);
    due("set 0 to 0", x.set(0, 0), false);
    due("set beyond", x.set(40, 1), false);
    due("set below", x.set(-1, 1), false);
    due("set 256", x.set(1, 256), false);
    due("set -1", x.set(1, -1), false);
    due("steps", x.about(2), 2);
    due("size 39", x.size(39), true);
    due("gone", x.at(39), 0);
    due("set beyond SIZE", x.set(39, 1), false);
    due("size 40 again", x.size(40), true);
    due("comes as 0", x.at(39), 0);
    due("lines", x.book(-1, 0), 4);
  }

  private static void mend() {
    ByteIntervals x = with("num a at 0 to 1;", 1, 2, 3);
    due("no TEXT", x.mend(), -1);
    x.by(0);
    due("no SUM", x.mend(), -1);
    due("no step", x.about(2), 4);
    due("text", Check.text(x, "sum a at 0 of 0 to size;"), 1);
    x.by(1);
    due("one other", x.mend(), 1);
    due("the sum", x.at(0), 5);
    due("the line", x.book(4, 1), 2);
    due("how many", x.book(4, 2), 1);
    due("no byte", x.book(4, 3), 0);
    due("nothing to mend", x.mend(), 0);
    due("a step all the same", x.about(2), 6);
    due("a line all the same", x.ledger(2), 2);
    // BROKEN and ringed ones: nothing to mend.
    x = with("sum a at 9 of 0 to 1;sum b at b of 0 to 1;", 1, 2);
    x.by(0);
    due("BROKEN ones alone", x.mend(), 0);
    x = with("sum a at a of 0 to 1;", 1, 2);
    x.by(0);
    due("RING alone", x.mend(), 0);
    due("a step", x.about(2), 4);
    // Two sums at one place: the later in ORDER stays.
    x = with("sum a at 0 of 1 to 2;sum b at 0 of 2 to 3;", 1, 2, 3);
    x.by(0);
    due("two at a place", x.mend(), 1);
    due("the later", x.at(0), 3);
    // A chain that settles place by place: the last byte counts the ones ahead.
    x = with("sum a at 1 of 0 to 1;sum b at 2 of 1 to 2;sum c at 3 of 2 to 3;", 7, 0, 0, 0);
    x.by(0);
    due("rounds", x.mend(), 3);
    due("through", x.at(3), 7);
    // Never at rest: each is the other and one.
    x = with("sum a at 0 of 1 to 3;sum b at 1 of 0 to 1;", 0, 0, 1);
    x.by(0);
    due("no rest", x.mend(), -1);
    due("nothing is done", x.is(3), 1);
    due("no step", x.about(2), 2);
    // Eight rounds at most: seven that change and one that does not.
    String chain = "";
    for (int i = 0; i < 7; i++) chain += "sum " + (char) ('a' + i) + " at " + (i + 1) + " of " + i + " to " + (i + 1) + ";";
    x = with(chain, 9, 0, 0, 0, 0, 0, 0, 0, 0);
    x.by(0);
    due("seven rounds and one", x.mend(), 7);
    x = with(chain + "sum h at 8 of 7 to 8;", 9, 0, 0, 0, 0, 0, 0, 0, 0);
    x.by(0);
    due("eight rounds and one", x.mend(), -1);
    // Sums in NESTS are not mended.
    x = with("nest a at 1 to size;sum b at 0 of 1 to size;", 0, 0, 5);
    x.by(0);
    due("not in NESTS", x.mend(), 1);
    due("inner one stays", x.at(1), 0);
  }

  private static void days() {
    ByteIntervals x = new ByteIntervals();
    due("day 0", x.day(0), -1);
    due("day 61", x.day(61), -1);
    due("day -1", x.day(MIN), -1);
    due("of no file", x.day(60), 0);
    due("no draw", x.is(1), 479);
    due("DAY", x.is(0), 60);
    due("steps", x.about(2), 30);
    for (int i = 0; i < 165; i++) x.day(60);
    due("DAY 9960", x.is(0), 9960);
    due("beyond", x.day(40), -1);
    due("nothing done", x.is(0), 9960);
    due("to the last", x.day(39), 0);
    due("the last", x.is(0), 9999);
    due("none can pass", x.day(1), -1);
    x.size(4);
    due("foretold: none passes", x.foretold(60, 0), 0);
    due("of rot alone", Check.text(x, "rots 10;"), 0);
    x.by(0);
    for (int p = 0; p < 4; p++) due("none passes: " + p, x.foretold(60, p), 0);
    due("played: none passes", Check.text(x, "mend;day 1;"), 1);
    x.by(1);
    // mend can't be: no SUM.
    due("its mend", x.played(1), 0);
    due("text", Check.text(x, "day 1;"), 2);
    due("its day", x.played(2), 0);
    due("DAY still", x.is(0), 9999);
    x.undo();
    x.undo();
    x.undo();
    due("DAY 9997", x.is(0), 9997);
    due("text", Check.text(x, "day 1;day 3;day 1;"), 3);
    due("those that can pass do", x.played(3), 1);
    due("DAY 9999", x.is(0), 9999);
    x.undo();
    due("years at 9998", x.years(3, 40), 9999);
  }

  private static void rots() {
    // X 479 by SIZE 6: place 5, by 8 of 14635: bit 3, then below 3.
    ByteIntervals x = Check.file(0, 0, 0, 0, 0, 12);
    due("one rots", x.day(1), 1);
    due("bit 3", x.at(5), 4);
    due("X", x.is(1), 18935);
    due("line's DAY", x.book(2, 0), 0);
    due("line's place", x.book(2, 2), 5);
    due("line's byte", x.book(2, 3), 4);
    x = with("rots 0;", 1, 2, 3);
    x.by(0);
    due("none rots", x.day(60), 0);
    x = with("rots -5;", 1, 2, 3);
    x.by(0);
    due("below is 0", x.day(60), 0);
    x = with("rots 9999;", 1, 2, 3);
    x.by(0);
    due("above is 10", x.day(60), 60);
    x = with("rots if day<7 then 10 else 0 end;", 1, 2, 3);
    x.by(0);
    due("by DAY", x.day(20), 7);
    x = new ByteIntervals();
    x.size(2);
    x.set(0, 200);
    due("text", Check.text(x, "rots if old=200 then 10 else if peek 0=200 and size=2 and place=1 then 0 else 5-5 end end;"), 0);
    x.by(0);
    x.day(60);
    due("just the one byte rotted", x.ledger(3), 1);
    due("the other did not", x.at(1), 0);
    // It peeks at THE FILE as it is then: not as it was mended or read last, and as it is foretold.
    x = with("sum a at 0 of 0 to 0;rots if peek 0=7 then 10 else 0 end;", 3, 0);
    x.by(0);
    due("mended", x.mend(), 1);
    x.set(0, 7);
    due("by the byte that is now", x.day(1), 1);
    x = with("sum a at 0 of 0 to 0;rots if peek 0=peek 1 then 10 else 0 end;", 0, 0);
    x.by(0);
    due("mended", x.mend(), 0);
    int first = x.foretold(1, 0) * 256 + x.foretold(1, 1);
    due("one day rots", first != 0, true);
    due("no other does", x.foretold(60, 0) * 256 + x.foretold(60, 1), first);
    x.day(60);
    due("as foretold", x.at(0) * 256 + x.at(1), first);
  }

  private static void played() {
    ByteIntervals x = new ByteIntervals();
    due("none", x.played(0), -2);
    due("none", x.played(-1), -2);
    due("text", Check.text(x, "num a at 0 to 1;size 4;set 0 to 3;rots 0;day 5;set 3 to 9;"), 0);
    due("all done", x.played(0), -1);
    due("its size", x.is(2), 4);
    due("its bytes", x.is(3), 12);
    due("its days", x.is(0), 5);
    due("its steps", x.about(2), 8);
    due("size is so: at 1", x.played(0), 1);
    due("others", x.played(1), -2);
    due("text", Check.text(x, "set 1 to 1;must 1=2;set 4 to 1;set 2 to 2;"), 1);
    due("beyond the file", x.played(1), 2);
    due("what was done stays", x.at(1), 1);
    due("what comes behind is not", x.at(2), 0);
    due("text", Check.text(x, "sum a at 0 of 1 to size;mend;"), 2);
    due("mended by THE TEXT: none", x.played(2), 1);
    x.by(2);
    due("mended by THE TEXT", x.played(2), -1);
    due("its sum", x.at(0), 10);
    due("a FORMAT alone", Check.text(x, "must 1=2;"), 3);
    due("nothing to play", x.played(3), -1);
  }

  private static void years() {
    ByteIntervals x = new ByteIntervals();
    due("seed below", x.years(-1, 1), -1);
    due("seed above", x.years(10000, 1), -1);
    due("none", x.years(0, 0), -1);
    due("too many", x.years(0, 41), -1);
    due("X stays", x.is(1), 479);
    due("no step", x.about(2), 0);
    // 479: by 6 it is 5, a DAY; of no file nothing is drawn but X itself.
    due("a DAY", x.years(0, 1), 1);
    due("X", x.is(1), 14635);
    due("one step", x.about(2), 1);
    // 14635 is 2 * 7078 + 479: by 6 it is 1, by 4 it is 3; 14635 / 6 = 2439, by 41 it is 20.
    due("SIZE", x.years(7078, 1), 1);
    due("20", x.is(2), 20);
    due("a line", x.book(0, 1), 1);
    // 2 * 50 + 479 = 579 by 6 is 3.
    due("a DAY", x.years(50, 1), 2);
    // 485 by 6 is 5; 483 by 6 is 3; 481 by 6 is 1, by 4 it is 1: nothing.
    due("nothing", x.years(1, 1), 2);
    due("SIZE still", x.is(2), 20);
    // 2 * s + 479 is odd: SET and MENDED come later in a run only; 14635 behind 479, then X anew.
    due("steps", x.about(2), 4);
    due("last seed, most", x.years(9999, 40) >= 2, true);
    due("undone as one", x.undo(), 4);
    due("as ahead of it", x.is(0), 2);
    due("SIZE as ahead of it", x.is(2), 20);
  }

  private static void undo() {
    ByteIntervals x = new ByteIntervals();
    due("none", x.undo(), -1);
    x.size(3);
    x.set(1, 5);
    x.size(1);
    due("of size", x.undo(), 2);
    due("bytes gone are there again", x.at(1), 5);
    due("the book", x.book(-1, 0), 2);
    x.day(4);
    due("each a step", x.undo(), 5);
    due("DAY", x.is(0), 3);
    due("all", x.undo() + x.undo() + x.undo(), 9);
    due("X", x.is(1), 479);
    for (int i = 0; i < 31; i++) x.set(0, i + 1);
    due("30 at most", x.about(2), 30);
    for (int i = 29; i >= 0; i--) due("back to " + i, x.undo(), i);
    due("no more", x.undo(), -1);
    due("the eldest is kept", x.at(0), 1);
    // Lines that fell out of the BOOK come again.
    for (int i = 0; i < 30; i++) x.set(0, i + 2);
    due("25 lines", x.book(0, 3), 7);
    x.undo();
    due("one earlier", x.book(0, 3), 6);
    due("25 still", x.book(-1, 0), 25);
  }

  private static void looks() {
    ByteIntervals x = Check.file(5, 5, 7, 0, 0, 0, 5);
    due("at", x.at(2), 7);
    due("at beyond SIZE", x.at(39), 0);
    due("at 40", x.at(40), -1);
    due("at -1", x.at(-1), -1);
    due("is 3", x.is(3), 22);
    due("is 4", x.is(4), -2);
    due("is -1", x.is(-1), -2);
    due("number", x.number(0, 3), 5 * 65536 + 5 * 256 + 7);
    due("number of none", x.number(7, 7), 0);
    due("number of four", x.number(0, 4), -1);
    due("number beyond", x.number(6, 8), -1);
    due("number backwards", x.number(2, 1), -1);
    due("number below", x.number(-1, 1), -1);
    due("number most", x.number(MAX, MAX), -1);
    due("number least", x.number(MIN, MAX), -1);
    due("sum", x.sum(0, 7), 22);
    due("sum of none", x.sum(3, 3), 0);
    due("sum beyond", x.sum(0, 8), -1);
    due("sum backwards", x.sum(1, 0), -1);
    due("sum below", x.sum(-1, 0), -1);
    due("find", x.find(5, 2), 6);
    due("find here", x.find(5, 6), 6);
    due("find at SIZE", x.find(0, 7), -1);
    due("find beyond", x.find(0, 8), -1);
    due("find below", x.find(5, -1), -1);
    due("find 256", x.find(256, 0), -1);
    due("find -1", x.find(-1, 0), -1);
    due("run", x.run(), 3);
    due("run of none", new ByteIntervals().run(), 0);
    due("run of one", Check.file(3).run(), 1);
    ByteIntervals y = new ByteIntervals();
    y.size(40);
    due("run of all", y.run(), 40);
  }

  private static void book() {
    ByteIntervals x = new ByteIntervals();
    due("none such", x.book(0, 0), -2);
    x.size(9);
    x.set(8, 200);
    x.day(2);
    due("size's what", x.book(0, 1), 1);
    due("size's SIZE", x.book(0, 2), 9);
    due("size's byte", x.book(0, 3), 0);
    due("set's what", x.book(1, 1), 0);
    due("set's place", x.book(1, 2), 8);
    due("set's byte", x.book(1, 3), 200);
    x.size(40);
    int last = x.book(-1, 0) - 1;
    due("its DAY", x.book(last, 0), 2);
    due("SIZE 40", x.book(last, 2), 40);
    due("others", x.book(0, 4), -2);
    due("others", x.book(0, -1), -2);
    due("others", x.book(-2, 0), -2);
    due("others", x.book(last + 1, 0), -2);
    due("others", x.book(MAX, 0), -2);
    for (int i = 0; i < 26; i++) x.set(0, i + 1);
    due("25 at most", x.book(-1, 0), 25);
    due("the eldest of them", x.book(0, 3), 2);
    due("the latest", x.book(24, 3), 26);
    due("ledger of sets", x.ledger(0), 25);
    due("ledger of sizes", x.ledger(1), 0);
    due("ledger of others", x.ledger(4), -2);
    due("ledger of others", x.ledger(-1), -2);
  }

  private static void foretold() {
    ByteIntervals x = Check.file(0, 0, 0, 0, 0, 12);
    due("a day", x.foretold(1, 5), 4);
    due("as it was", x.at(5), 12);
    due("X as it was", x.is(1), 479);
    due("none", x.foretold(0, 5), -1);
    due("61", x.foretold(61, 5), -1);
    due("place 40", x.foretold(1, 40), -1);
    due("place -1", x.foretold(1, -1), -1);
    due("beyond SIZE", x.foretold(60, 39), 0);
    int[] told = new int[6];
    for (int i = 0; i < 6; i++) told[i] = x.foretold(60, i);
    x.day(60);
    for (int i = 0; i < 6; i++) due("as foretold " + i, x.at(i), told[i]);
  }

  private static void arithmetic() {
    sumIs("7/2", 3);
    sumIs("0-(-7/2)", 3);
    sumIs("7/0", 0);
    sumIs("8-2-1", 5);
    sumIs("20/2/5*3", 6);
    sumIs("2+3*4", 14);
    sumIs("-2+3", 1);
    sumIs("-2*-3", 6);
    sumIs("--4", 4);
    sumIs("peek 1+1", 8, 0, 7);
    sumIs("peek peek 0", 9, 2, 0, 9);
    sumIs("-peek 1+20", 13, 0, 7);
    sumIs("peek-1+peek 40+3", 3, 5);
    sumIs("peek 39+3", 3);
    sumIs("9999*9999/9999-99", 1);
    // A million at most, at each step: 1000000 - 999999.
    sumIs("9999*9999-9999*100-99", 1);
    sumIs("9999*-9999+9999*100+100+7", 7);
    sumIs("9999*9999+9999*9999-9999*100-99", 1);
    sumIs("if 1=1 then 3 else 4 end", 3);
    sumIs("if 1=2 then 3 else 4 end*2", 8);
    sumIs("if not 1=2 and 3>2 then if 1#1 then 1 else 2 end else 3 end", 2);
    sumIs("size-deep", 40);
    sumIs("h+5", 5);
    asked("1<2", true);
    asked("2<2", false);
    asked("2<=2", true);
    asked("3<=2", false);
    asked("3>2", true);
    asked("2>2", false);
    asked("2>=2", true);
    asked("1>=2", false);
    asked("1=1", true);
    asked("1#1", false);
    asked("1#2", true);
    asked("1=2 or 1=1 and 2=3", false);
    asked("1=1 or 1=1 and 2=3", true);
    asked("not 1=2 and 2=2", true);
    asked("not 1=1 or 2=2", true);
    asked("not not 1=1", true);
    // A NAME is as it is, above a million; what is made of it is not.
    ByteIntervals x = with("num a at 0 to 3;must a>1000*1000;must a+0=1000*1000;must -a<-1000*1000;must -a-0=-1000*1000;must a/1=1000*1000;must a-0=a*1;must a*a=1000*1000;must a*-a=-1000*1000;", 255, 255, 255);
    due("the value", x.field(0, 0, 0), 16777215);
    due("all so", x.must(0), -1);
  }

  private static void validAndMust() {
    ByteIntervals x = with("num a at 0 to 1;must a<9;size 3;must a>2;", 5);
    due("VALID", x.valid(0), true);
    due("no must is not", x.must(0), -1);
    x.set(0, 9);
    due("not VALID", x.valid(0), false);
    due("the first", x.must(0), 1);
    x.set(0, 1);
    due("the second, as a CLAUSE", x.must(0), 3);
    x.size(0);
    due("a must that names a BROKEN one", x.must(0), 1);
    due("of others", x.must(1), -1);
    due("of others", x.valid(1), false);
    due("of others", x.valid(-1), false);
    x = with("num a at 5 to 6;must if 1=1 then 1 else a end=1;", 1);
    due("chosen or not", x.must(0), 1);
    x = with("must h=0;must not h#0;", 1);
    due("not told is 0 and RIGHT", x.must(0), -1);
    x = with("sum a at 0 of 0 to size;", 1, 2);
    due("WRONG is not VALID", x.valid(0), false);
    x.set(0, 2);
    due("RIGHT is", x.valid(0), true);
  }

  private static void field() {
    ByteIntervals x = with("num a at 1 to 4;num b at 0 to 0;sum c at 3 of 0 to 5;num d at 0 to 4;num e at 4 to 6;", 1, 2, 3, 250, 5);
    int[][] want = {{2 * 65536 + 3 * 256 + 250, 1, 4, 0}, {0, 0, 0, 0}, {11, 3, 4, 2}, {-1, -1, -1, 1}, {-1, -1, -1, 1}, {-2, -2, -2, 3}};
    for (int f = 0; f < want.length; f++) {
      for (int i = 0; i < 4; i++) due("field " + f + " " + i, x.field(0, f, i), want[f][i]);
    }
    x.set(3, 11);
    due("RIGHT", x.field(0, 2, 3), 0);
    due("what 4", x.field(0, 0, 4), -2);
    due("what -1", x.field(0, 0, -1), -2);
    due("field 8", x.field(0, 8, 3), -2);
    due("field -1", x.field(0, -1, 3), -2);
    due("text 1", x.field(1, 0, 3), -2);
    due("text -1", x.field(-1, 0, 3), -2);
    // mod 256, the byte at FROM outside too; a sum at SIZE is BROKEN.
    x = with("sum a at 2 of 0 to 2;sum b at size of 0 to 1;sum c at 0 of 1 to 0;sum d at -1 of 0 to 1;sum e at 0 of 3 to 3;", 200, 100, 44);
    due("mod 256", x.field(0, 0, 0), 44);
    due("RIGHT", x.field(0, 0, 3), 0);
    due("at SIZE", x.field(0, 1, 3), 1);
    due("backwards", x.field(0, 2, 3), 1);
    due("below", x.field(0, 3, 3), 1);
    due("of none", x.field(0, 4, 0), 0);
    // Hanging on a BROKEN one and in RING; on a WRONG one it is fine.
    x = with("num a at 7 to 8;num b at a*0 to 1;sum c at 0 of 0 to 2;num d at c to 3;num e at e to 3;num f at 0*g to 1;", 9, 1, 4);
    due("on a BROKEN one", x.field(0, 1, 3), 1);
    due("WRONG", x.field(0, 2, 3), 2);
    due("on a WRONG one", x.field(0, 3, 0), 256 + 4);
    due("on itself", x.field(0, 4, 3), 1);
    due("on one not told", x.field(0, 5, 0), 9);
    // A NEST as long as all is BROKEN.
    x = with("nest a at 0 to size;nest b at 0 to size-1;nest c at 1 to 1;", 1, 2);
    due("as many as size", x.field(0, 0, 3), 1);
    due("one fewer", x.field(0, 1, 3), 2);
    due("of none", x.field(0, 2, 2), 1);
    x.size(0);
    due("of none in none", x.field(0, 1, 3), 1);
  }

  private static void inside() {
    ByteIntervals x = with("num a at 0 to 1;nest b at a to size;num c at deep to 2;sum d at 0 of 1 to size;", 1, 2, 7, 8, 1);
    due("b", x.field(0, 1, 3), 2);
    // In it: 2 7 8 1; a is 2, b from 2 on, c from 1 on, d 16.
    due("a in b", x.inside(0, 1, 0, 0), 2);
    due("b in b from", x.inside(0, 1, 1, 1), 2);
    due("b in b to", x.inside(0, 1, 1, 2), 4);
    due("b in b", x.inside(0, 1, 1, 0), 1);
    due("c in b", x.inside(0, 1, 2, 0), 7);
    due("d in b", x.inside(0, 1, 3, 0), 16);
    due("d in b is WRONG", x.inside(0, 1, 3, 3), 2);
    due("not told", x.inside(0, 1, 4, 3), 3);
    due("not told", x.inside(0, 1, 4, 0), -2);
    due("no NEST", x.inside(0, 0, 0, 0), -2);
    due("not told NEST", x.inside(0, 5, 0, 0), -2);
    due("what 4", x.inside(0, 1, 0, 4), -2);
    due("nest 8", x.inside(0, 8, 0, 0), -2);
    due("field 8", x.inside(0, 1, 8, 0), -2);
    due("text 1", x.inside(1, 1, 0, 0), -2);
    x.set(0, 9);
    due("BROKEN", x.inside(0, 1, 0, 3), -2);
  }

  private static void orderAndRing() {
    ByteIntervals x = with("num c at a to a;num a at b to 1;num b at h to 1;num d at e to 1;num e at d to 1;num f at e to 1;num g at 0 to 1;", 1, 2);
    int[] order = {1, 0, 2, 6, -1};
    for (int i = 0; i < order.length; i++) due("order " + i, x.order(0, i), order[i]);
    due("ring", x.ring(0), 8 + 16 + 32);
    due("order -1", x.order(0, -1), -1);
    due("order most", x.order(0, MAX), -1);
    due("order of others", x.order(1, 0), -1);
    due("ring of others", x.ring(1), -1);
    due("ring of others", x.ring(-1), -1);
    x = with("num a at 0 to 0+if 1=1 then 1 else b end;num b at a to 1;");
    due("chosen or not", x.ring(0), 3);
  }

  private static void overlapAndLoose() {
    ByteIntervals x = with("num a at 0 to 2;sum b at 1 of 2 to 4;num c at 2 to 4;num d at 9 to 10;num e at 1 to 1;nest f at 1 to 3;", 1, 2, 3, 4, 5, 6);
    due("a", x.overlap(0, 0), 2 + 32);
    due("b: its one", x.overlap(0, 1), 1 + 32);
    due("c", x.overlap(0, 2), 32);
    due("d is BROKEN", x.overlap(0, 3), -1);
    due("e has none", x.overlap(0, 4), 0);
    due("f", x.overlap(0, 5), 1 + 2 + 4);
    due("not told", x.overlap(0, 6), -1);
    due("others", x.overlap(0, 8), -1);
    due("others", x.overlap(1, 0), -1);
    due("loose", x.loose(0), 16 + 32);
    due("loose of others", x.loose(1), -1);
    x.size(40);
    due("loose to 40", x.loose(0), (1L << 40) - 16 - 512);
    x.size(0);
    due("loose of none", x.loose(0), 0);
  }

  private static void needs() {
    ByteIntervals x = with("num a at 0 to 1;num b at peek a to peek a+1;sum c at 3 of 4 to 6;num d at b to b+peek 7;num e at e to 1;num f at d+99 to peek 9;num g at f to peek 1;", 2, 0, 5, 0, 1, 1, 0, 1, 0, 3);
    due("a", x.needs(0, 0), 1);
    due("b: its own, the peek, a", x.needs(0, 1), 1 | 4 | 32);
    due("c: that at FROM, too", x.needs(0, 2), 8 | 16 | 32);
    due("d", x.needs(0, 3), 1 | 4 | 32 | 128 | 2);
    due("RING looks at none", x.needs(0, 4), 0);
    due("f BROKEN: its SUMS", x.needs(0, 5), 1 | 4 | 32 | 128 | 2 | 512);
    due("g hangs on a BROKEN one: not its own", x.needs(0, 6), x.needs(0, 5));
    due("not told", x.needs(0, 7), -1);
    due("others", x.needs(0, 8), -1);
    due("others", x.needs(1, 0), -1);
    x = with("num a at if peek 0=1 then peek 1 else peek 2 end*0 to 0;num b at peek 39*peek-1*0 to 0;num c at if 1=2 and peek 3=1 then 1 else 0 end to 0;", 1, 0, 0, 0);
    due("chosen ones alone", x.needs(0, 0), 3);
    due("in the interval alone", x.needs(0, 1), 0);
    due("and looks at both sides", x.needs(0, 2), 8);
    // In NESTS: what its FIELDS and musts look at; a must that names a BROKEN one has no look of its own.
    x = with("nest a at 1 to size;must peek 0=peek 0;must b+peek 1=0;num b at peek 2 to 0;", 0, 0, 0, 7, 0);
    due("a BROKEN one in it", x.needs(0, 0), 2 | 8 | 4 | 16);
    due("b", x.needs(0, 1), 4);
  }

  private static void flips() {
    ByteIntervals x = with("num a at 0 to 1;num b at a to a+1;sum c at 3 of 2 to 3;", 1, 9, 0, 0, 4);
    due("a, and b is BROKEN then", x.flips(0, 0), 3);
    due("b", x.flips(0, 1), 2);
    due("c's value", x.flips(0, 2), 4);
    due("c is WRONG then", x.flips(0, 3), 4);
    due("none", x.flips(0, 4), 0);
    due("beyond SIZE", x.flips(0, 5), -1);
    due("below", x.flips(0, -1), -1);
    due("others", x.flips(1, 0), -1);
    due("as it was", x.at(0), 1);
    x = with("num a at 0 to if peek 0=250 then 0 else 1 end;num b at if peek 0<255 then 0 else 1 end to 1;", 5);
    due("255 less 5 is 250", x.flips(0, 0), 3);
    x.set(0, 6);
    due("255 less 6 is not", x.flips(0, 0), 3);
    x = with("num a at 0 to if peek 0=250 then 0 else 0 end;num b at 0*peek 0 to 0;num c at if peek 0=250 or peek 0=5 then 1 else 0 end to 1;must 1=1;", 5);
    due("of none all is as it was", x.flips(0, 0), 0);
  }

  private static void sure() {
    ByteIntervals x = with("nest a at 1 to size;nest b at 0 to size;nest c at 0 to 3;nest d at deep to size-1;nest e at 1+h*0 to size;nest f at peek 0*0+1 to size;num g at 1 to size;");
    boolean[] want = {true, false, false, false, false, false, false, false};
    for (int f = 0; f < 8; f++) due("sure " + f, x.sure(0, f), want[f]);
    due("others", x.sure(0, 8), false);
    due("others", x.sure(0, -1), false);
    due("others", x.sure(1, 0), false);
    x = with("nest a at 0 to 41;nest b at 0 to 40;nest c at size/2 to size;nest d at size/2 to size/2+size/2;nest e at 5 to 4;nest f at if 1=2 then h else 1 end to size;nest g at 0 to 0;nest h at 0 to size-1;");
    boolean[] wide = {true, false, false, true, true, false, true, true};
    for (int f = 0; f < 8; f++) due("wide " + f, x.sure(0, f), wide[f]);
  }

  private static void least() {
    ByteIntervals x = with("must size>2;must peek 3=0;num a at 0 to 1;must a=5;", 5, 1, 1, 1, 1);
    due("cut to 3", x.least(0), 3);
    due("as it was", x.is(2), 5);
    due("others", x.least(1), -1);
    x.set(0, 4);
    due("none", x.least(0), -1);
    x = with("must size=40;", 1);
    due("40", x.least(0), 40);
    x = with("must size=41;", 1);
    due("41 is none", x.least(0), -1);
    x = with("", 1);
    due("0", x.least(0), 0);
  }

  private static void make() {
    ByteIntervals x = with("num a at 0 to 1;num b at a to a+1;sum c at 2 of 0 to 4;nest d at peek 3 to size-1;num e at e to 1;", 1, 7, 0, 0);
    due("a", x.make(0, 0, 200), 200);
    due("a as it is: another place", x.make(0, 0, 1), 256);
    due("b by a", x.make(0, 1, 0), 0);
    due("b by its byte", x.make(0, 1, 99), 256 + 99);
    due("b as it is", x.make(0, 1, 7), 512 + 1);
    due("c", x.make(0, 2, 3), 3 - 7 + 256);
    due("c as it is: not by a byte of it", x.make(0, 2, 8), 512 + 1);
    due("c above", x.make(0, 2, 256), -1);
    due("d as it is: the first place that it does not look at", x.make(0, 3, 2), 0);
    due("d of none", x.make(0, 3, 1), 768 + 3);
    due("d BROKEN else", x.make(0, 3, 9), -1);
    due("RING", x.make(0, 4, 0), -1);
    due("not told", x.make(0, 5, 0), -1);
    due("others", x.make(0, 8, 0), -1);
    due("others", x.make(1, 0, 0), -1);
    due("value below", x.make(0, 0, -1), -1);
    due("value above", x.make(0, 0, 16777216), -1);
    due("as it was", x.is(3), 8);
    // The byte at a place is never that which is there.
    x = with("num a at 0 to 3;", 0, 0, 0);
    due("none of one byte", x.make(0, 0, 257), -1);
    due("as it is: none", x.make(0, 0, 0), -1);
    due("high", x.make(0, 0, 16711680), 255);
    due("low", x.make(0, 0, 255), 512 + 255);
    x = with("num a at 0 to 3;sum b at 0 of 1 to 3;", 255, 255, 0);
    due("the highest number", x.make(0, 0, 16777215), 512 + 255);
    due("the highest sum: not by its own byte", x.make(0, 1, 255), 0);
    x.set(2, 9);
    due("the highest sum", x.make(0, 1, 255), 256 + 246);
    StringBuilder all = new StringBuilder("nest a at 1 to size;");
    for (int f = 1; f < 8; f++) all.append("nest ").append((char) ('a' + f)).append(" at peek 0 to 1;");
    x = with(all.toString(), 9, 9, 9);
    due("the highest nest", x.make(0, 0, 9), 256);
    due("eight in it", x.make(0, 0, 8), -1);
    due("one in it", x.make(0, 0, 2), 0);
    x = with(all.toString(), 9, 1, 9);
    due("all in it", x.field(0, 0, 0), 9);
    due("the highest nest", x.make(0, 0, 9), 0);
  }

  private static void alike() {
    ByteIntervals x = with("num a at 0 to 1;num b at 1 to 2;num c at 9 to 10;num d at 1 to 2;num f at 0 to 1;", 3, 4, 3);
    due("text", Check.text(x, "num a at 2 to 3;num b at 2 to 3;num c at c to 0;sum d at 2 of 1 to 2;num e at 0 to 1;"), 1);
    due("a has a like value, c is BROKEN in both, d is not alike", x.alike(0, 1), 1 + 4);
    due("the other way", x.alike(1, 0), 1 + 4);
    due("itself", x.alike(0, 0), 1 + 2 + 4 + 8 + 32);
    due("others", x.alike(0, 2), -1);
    due("others", x.alike(-1, 0), -1);
  }

  private static void deepAndKind() {
    ByteIntervals x = with("nest a at 1 to size;num b at 0 to 0;sum c at 0 of 0 to 0;", 1, 2, 3);
    due("two deep", x.deep(0), 2);
    due("value: itself and one in it", x.field(0, 0, 0), 2);
    x.size(2);
    due("two deep, of none", x.deep(0), 2);
    x.size(1);
    due("one deep", x.deep(0), 1);
    due("value", x.field(0, 0, 0), 1);
    x.size(0);
    due("none", x.deep(0), 0);
    due("others", x.deep(1), -1);
    due("nest", x.kind(0, 0), 2);
    due("num", x.kind(0, 1), 0);
    due("sum", x.kind(0, 2), 1);
    due("not told", x.kind(0, 3), -1);
    due("others", x.kind(0, 8), -1);
    due("others", x.kind(1, 0), -1);
  }

  private static void saidAndWhose() {
    ByteIntervals x = with("num a at 0 to 1;", 3, 4);
    Check.text(x, "num a at 1 to 2;num b at 0 to 1;");
    Check.text(x, "sum a at 1 of 0 to 1;num c at 7 to 8;");
    due("all of nothing", x.whose(), 7);
    due("said", x.said(0, 3), 1);
    due("a is 3: WRONG too", x.whose(), 1 + 4);
    due("said", x.said(1, 0), 2);
    due("b not told is not 0", x.whose(), 0);
    due("none any more", x.said(-1, -5), 0);
    due("all", x.whose(), 7);
    due("said", x.said(2, 0), 1);
    due("BROKEN or not told", x.whose(), 0);
    due("field 8", x.said(8, 0), -2);
    due("field -2", x.said(-2, 0), -2);
    due("value -1", x.said(0, -1), -2);
    due("value above", x.said(0, 16777216), -2);
    due("value highest", x.said(0, 16777215), 2);
    for (int i = 3; i <= 8; i++) due("said", x.said(7, i), i);
    due("eight there", x.said(7, 9), -2);
    due("about", x.about(3), 8);
    due("none any more", x.said(-1, 0), 0);
    due("about", x.about(3), 0);
  }

  private static void imageAndBack() {
    ByteIntervals x = with("rots 10;", 3, 4);
    x.by(0);
    x.said(0, 3);
    x.day(2);
    due("image", x.image(), 2);
    int steps = x.about(2), sum = x.is(3), draws = x.is(1), lines = x.book(-1, 0);
    x.day(40);
    x.size(9);
    x.said(1, 1);
    Check.text(x, "mend;");
    x.by(1);
    Check.text(x, "mend;?");
    Check.tape(x, "size 3;");
    due("back", x.back(), 2);
    due("steps", x.about(2), steps);
    due("bytes", x.is(3), sum);
    due("X", x.is(1), draws);
    due("lines", x.book(-1, 0), lines);
    due("TEXTS", x.about(0), 1);
    due("THE TEXT", x.about(1), 0);
    due("SAID", x.about(3), 1);
    due("but not the tape", x.about(4), 7);
    due("nor the FAULT", x.fault(1), 5);
    due("a step of then is taken back", x.undo(), steps - 1);
    due("DAY", x.is(0), 1);
    due("back again: it stays", x.back(), 2);
    due("steps again", x.about(2), steps);
    due("the next TEXT", x.text(), 1);
    due("it is another one", x.played(1), -1);
    due("SIZE", x.is(2), 3);
  }

  private static void about() {
    ByteIntervals x = new ByteIntervals();
    due("others", x.about(5), -2);
    due("others", x.about(-1), -2);
    Check.tape(x, "mend");
    due("tape", x.about(4), 4);
    x.end(0);
    Check.text(x, "mend;");
    due("TEXTS", x.about(0), 1);
    due("THE TEXT: none", x.about(1), -1);
    x.by(0);
    due("THE TEXT", x.about(1), 0);
  }
}
