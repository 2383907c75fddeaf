/** FORMATS, what is read by them and asked about them: a test for each sentence that names a boundary case. */
public final class EdgesOfFormatsTest {
  private static final int MAX = Integer.MAX_VALUE;
  private static final int MIN = Integer.MIN_VALUE;
  private static final int RIGHT = 0, BROKEN = 1, WRONG = 2, NOT_TOLD = 3;

  public static void main(String[] args) throws Exception { Edges.runAll(EdgesOfFormatsTest.class); }

  private static void due(long got, long want) { Edges.due(got, want); }
  private static void due(boolean got, boolean want) { Edges.due(got, want); }

  /** Of a FIELD of TEXT 0: its value, FROM, TO and how it is. */
  private static void fieldIs(ByteIntervals x, char field, int value, int from, int to, int how) {
    due(x.field(0, field - 'a', 0), value);
    due(x.field(0, field - 'a', 1), from);
    due(x.field(0, field - 'a', 2), to);
    due(x.field(0, field - 'a', 3), how);
  }

  private static void broken(ByteIntervals x, char field) { fieldIs(x, field, -1, -1, -1, BROKEN); }

  /** How the one FIELD a of a text is, in such a file. */
  private static void howIs(String text, int how, int... bytes) {
    due(Edges.with(text, bytes).field(0, 0, 3), how);
  }

  private static void so(String either, int... bytes) { due(Edges.with("must " + either + ";", bytes).must(0), -1); }
  private static void notSo(String either, int... bytes) { due(Edges.with("must " + either + ";", bytes).must(0), 0); }

  /** Of a, the number of the first three bytes. */
  private static void ofA(String either, int a) {
    ByteIntervals x = Edges.with("num a at 0 to 3;must " + either + ";", a >> 16, a >> 8 & 255, a & 255);
    due(x.field(0, 0, 0), a);
    due(x.must(0), -1);
  }

  private static long bits(int... places) {
    long all = 0;
    for (int p : places) all |= 1L << p;
    return all;
  }

  // ---- Promise 9: mend ----

  static void p09_noTextRules() {
    ByteIntervals x = Edges.with("sum a at 0 of 1 to 2;", 0, 5);
    due(x.mend(), -1);
    due(x.at(0), 0);
    due(x.about(2), 2);
    x.by(0);
    due(x.mend(), 1);
  }

  static void p09_noSum() {
    ByteIntervals x = Edges.by("num a at 0 to 1;nest b at 1 to size;", 0, 5);
    due(x.mend(), -1);
    due(x.ledger(2), 0);
    due(x.about(2), 2);
  }

  static void p09_nothingToMendIs0AndAStepAndALine() {
    ByteIntervals x = Edges.by("sum a at 0 of 1 to 2;", 5, 5);
    int steps = x.about(2), lines = x.book(-1, 0);
    due(x.mend(), 0);
    due(x.about(2), steps + 1);
    due(x.book(-1, 0), lines + 1);
    due(x.book(lines, 1), 2);
    due(x.book(lines, 2), 0);
  }

  static void p09_brokenSumsAreLeft() {
    // Beyond the file, and in RING.
    ByteIntervals x = Edges.by("sum a at 9 of 0 to 1;sum b at 0 of 1 to 9;sum c at c of 0 to 1;", 1, 2, 3);
    due(x.mend(), 0);
    due(x.is(3), 6);
    due(x.about(2), 5);
  }

  static void p09_ofAnEmptyFileNothing() {
    ByteIntervals x = Edges.by("sum a at 0 of 0 to 0;");
    due(x.mend(), 0);
    due(x.about(2), 1);
  }

  static void p09_sumsInNestsAreLeft() {
    ByteIntervals x = Edges.by("nest a at 1 to size;sum b at 0 of 2 to size;", 0, 0, 5, 6);
    due(x.mend(), 1);
    due(x.at(0), 11);
    due(x.at(1), 0);
  }

  static void p09_theValueThatWasReadIsPut() {
    // In one round b gets what a was when the file was read: 1 round more till all is at rest.
    ByteIntervals x = Edges.by("sum a at 0 of 2 to 3;sum b at 1 of 0 to 1;", 1, 1, 9);
    due(x.mend(), 2);
    due(x.at(0), 9);
    due(x.at(1), 9);
  }

  static void p09_aSumThatCountsItselfCountsIt0() {
    ByteIntervals x = Edges.by("sum a at 1 of 0 to size;", 200, 77, 100);
    due(x.mend(), 1);
    due(x.at(1), 44);
    due(x.mend(), 0);
  }

  static void p09_inOrderTheLastAtAPlaceStays() {
    ByteIntervals x = Edges.by("sum b at 0 of 2 to 3;sum a at 0 of 1 to 2;", 1, 2, 3);
    due(x.mend(), 1);
    due(x.at(0), 3);
    // ORDER is not that of the letters, if a hangs on b.
    x = Edges.by("sum a at b*0 of 1 to 2;sum b at 0 of 2 to 3;", 1, 2, 3);
    due(x.mend(), 1);
    due(x.at(0), 2);
  }

  private static String chain(int sums) {
    StringBuilder b = new StringBuilder();
    for (int i = 0; i < sums; i++) b.append("sum ").append((char) ('a' + i)).append(" at ").append(i + 1).append(" of ").append(i).append(" to ").append(i + 1).append(";");
    return b.toString();
  }

  static void p09_theEighthRoundMayBeTheOneThatLeavesAll() {
    ByteIntervals x = Edges.by(chain(7), 9, 0, 0, 0, 0, 0, 0, 0, 0);
    due(x.valid(0), false);
    due(x.mend(), 7);
    for (int p = 0; p < 8; p++) due(x.at(p), 9);
  }

  static void p09_aNinthRoundThereIsNot() {
    ByteIntervals x = Edges.by(chain(8), 9, 0, 0, 0, 0, 0, 0, 0, 0);
    due(x.valid(0), false);
    int steps = x.about(2), lines = x.book(-1, 0);
    due(x.mend(), -1);
    due(x.is(3), 9);
    due(x.about(2), steps);
    due(x.book(-1, 0), lines);
  }

  static void p09_whatGoesRoundNeverRests() {
    ByteIntervals x = Edges.by("sum a at 0 of 1 to 3;sum b at 1 of 0 to 1;", 0, 0, 1);
    due(x.mend(), -1);
    due(x.is(3), 1);
    due(x.about(2), 2);
  }

  static void p09_otherBytesAreCountedAgainstThoseAhead() {
    // The first round puts 5 at place 1, the second, a being 0 then, 0 again: none is other.
    ByteIntervals x = Edges.by("sum a at 0 of 2 to 3;sum b at 1 of 0 to 1;", 5, 0, 0);
    due(x.mend(), 1);
    due(x.at(0), 0);
    due(x.at(1), 0);
  }

  static void p09_aSumMayMoveAsItIsMended() {
    // b is where a tells: behind the first round that is elsewhere.
    ByteIntervals x = Edges.by("num a at 0 to 1;sum b at a of 0 to 0;", 0, 7);
    due(x.mend(), 0);
    x = Edges.by("sum a at 0 of 1 to 2;num b at 0 to 1;sum c at b of 0 to 0;", 0, 2, 9);
    // Ahead of it b is 0, and so c is at 0 (behind a); a is put, then c: 0 as it was.
    due(x.mend(), 0);
    due(x.at(2), 9);
  }

  static void p09_sumsAlone() {
    // What they hang on stays: a num of two bytes and one of none, a nest.
    ByteIntervals x = Edges.by("num a at 0 to 2;num b at 1 to 1;nest c at 0 to 2;sum d at 3 of 0*a+0*b to 3+0*c;", 7, 8, 9, 0);
    due(x.mend(), 1);
    due(x.at(0), 7);
    due(x.at(1), 8);
    due(x.at(3), 24);
  }

  static void p09_atTheLastPlace() {
    ByteIntervals x = new ByteIntervals();
    x.size(40);
    x.set(0, 255);
    Edges.read(x, "sum a at 39 of 0 to 40;");
    x.by(0);
    due(x.mend(), 1);
    due(x.at(39), 255);
  }

  // ---- Promise 18: valid ----

  static void p18_othersAreFalse() {
    ByteIntervals x = Edges.with("", 1);
    due(x.valid(0), true);
    due(x.valid(1), false);
    due(x.valid(-1), false);
    due(x.valid(4), false);
    due(x.valid(MAX), false);
    due(x.valid(MIN), false);
  }

  static void p18_aBrokenFieldIsNotValid() {
    ByteIntervals x = Edges.with("num a at 0 to 2;", 1, 1);
    due(x.valid(0), true);
    x.size(1);
    due(x.valid(0), false);
  }

  static void p18_aFieldInRingIsNotValid() {
    due(Edges.with("num a at a to 1;", 1, 1).valid(0), false);
    due(Edges.with("num a at 0 to 1;num b at b to 1;", 1, 1).valid(0), false);
  }

  static void p18_aWrongFieldIsNotValid() {
    ByteIntervals x = Edges.with("sum a at 0 of 1 to 2;", 5, 5);
    due(x.valid(0), true);
    x.set(1, 6);
    due(x.valid(0), false);
  }

  static void p18_aMustThatIsNotIsNotValid() {
    due(Edges.with("must 1=1;must 2=2;", 1).valid(0), true);
    due(Edges.with("must 1=1;must 2=3;", 1).valid(0), false);
    due(Edges.with("must 1=2;must 3=3;", 1).valid(0), false);
  }

  static void p18_fieldsThatAreNotToldDoNotCount() {
    due(Edges.with("num h at 0 to 1;", 1).valid(0), true);
  }

  static void p18_otherClausesDoNotCount() {
    due(Edges.with("set 39 to 1;size 0;mend;day 60;rots 10;").valid(0), true);
  }

  static void p18_ofAnEmptyFile() {
    due(Edges.with("num a at 0 to 0;").valid(0), true);
    due(Edges.with("num a at 0 to 1;").valid(0), false);
    due(Edges.with("sum a at 0 of 0 to 0;").valid(0), false);
  }

  // ---- Promise 19: field ----

  static void p19_othersAreBelowNone() {
    ByteIntervals x = Edges.with("num a at 0 to 1;", 5);
    due(x.field(1, 0, 0), -2);
    due(x.field(-1, 0, 0), -2);
    due(x.field(0, -1, 3), -2);
    due(x.field(0, 8, 3), -2);
    due(x.field(0, 0, -1), -2);
    due(x.field(0, 0, 4), -2);
    due(x.field(MAX, 0, 0), -2);
    due(x.field(0, MAX, 0), -2);
    due(x.field(0, MIN, 0), -2);
    due(x.field(0, 0, MAX), -2);
    due(x.field(0, 0, MIN), -2);
    due(x.field(0, 1, 4), -2);
    due(x.field(0, 0, 3), RIGHT);
  }

  static void p19_ofOneNotToldJustHowItIs() {
    ByteIntervals x = Edges.with("num a at 0 to 1;", 5);
    fieldIs(x, 'b', -2, -2, -2, NOT_TOLD);
    fieldIs(x, 'h', -2, -2, -2, NOT_TOLD);
  }

  static void p19_fromAt0AndBelow() {
    howIs("num a at 0 to 1;", RIGHT, 5, 6);
    howIs("num a at -1 to 1;", BROKEN, 5, 6);
    howIs("nest a at 0 to 1;", WRONG, 5, 6);
    howIs("nest a at -1 to 0;", BROKEN, 5, 6);
    howIs("sum a at 0 of 0 to 1;", RIGHT, 0, 6);
    howIs("sum a at 0 of -1 to 1;", BROKEN, 0, 6);
    howIs("sum a at -1 of 0 to 1;", BROKEN, 0, 6);
  }

  static void p19_fromAsHighAsToAndHigher() {
    ByteIntervals x = Edges.with("num a at 1 to 1;num b at 2 to 2;num c at 1 to 0;num d at 2 to 1;", 5, 6);
    fieldIs(x, 'a', 0, 1, 1, RIGHT);
    fieldIs(x, 'b', 0, 2, 2, RIGHT);
    broken(x, 'c');
    broken(x, 'd');
    howIs("nest a at 1 to 1;", WRONG, 5, 6);
    howIs("nest a at 1 to 0;", BROKEN, 5, 6);
    howIs("sum a at 0 of 2 to 2;", RIGHT, 0, 6);
    howIs("sum a at 0 of 2 to 1;", BROKEN, 0, 6);
  }

  static void p19_toAtSizeAndBeyond() {
    howIs("num a at 1 to size;", RIGHT, 5, 6);
    howIs("num a at 1 to size+1;", BROKEN, 5, 6);
    howIs("num a at 3 to 3;", BROKEN, 5, 6);
    howIs("nest a at 1 to size;", WRONG, 5, 6);
    howIs("nest a at 2 to size+1;", BROKEN, 5, 6);
    howIs("sum a at 0 of 1 to size;", RIGHT, 6, 6);
    howIs("sum a at 0 of 1 to size+1;", BROKEN, 6, 6);
  }

  static void p19_farBeyond() {
    howIs("num a at 0 to 9999;", BROKEN, 5, 6);
    howIs("num a at 9999 to 9999;", BROKEN, 5, 6);
    howIs("num a at 0-9999*9999 to 9999*9999;", BROKEN, 5, 6);
    howIs("sum a at 9999*9999 of 0 to 1;", BROKEN, 5, 6);
  }

  static void p19_theOneByteOfASumIsInIt() {
    ByteIntervals x = Edges.with("sum a at 1 of 0 to 1;sum b at 2 of 0 to 1;sum c at size of 0 to 0;", 5, 5);
    fieldIs(x, 'a', 5, 1, 2, RIGHT);
    broken(x, 'b');
    broken(x, 'c');
  }

  static void p19_aNumOfThreeBytesAndOfFour() {
    ByteIntervals x = Edges.with("num a at 0 to 3;num b at 0 to 4;num c at 1 to 4;num d at 0 to 2;num e at 0 to 1;", 1, 2, 3, 4);
    fieldIs(x, 'a', 65536 + 512 + 3, 0, 3, RIGHT);
    broken(x, 'b');
    fieldIs(x, 'c', 2 * 65536 + 3 * 256 + 4, 1, 4, RIGHT);
    fieldIs(x, 'd', 258, 0, 2, RIGHT);
    fieldIs(x, 'e', 1, 0, 1, RIGHT);
  }

  static void p19_aNumOfNoneIs0() {
    ByteIntervals x = Edges.with("num a at 0 to 0;num b at size to size;", 7);
    fieldIs(x, 'a', 0, 0, 0, RIGHT);
    fieldIs(x, 'b', 0, 1, 1, RIGHT);
  }

  static void p19_theHighestNum() {
    fieldIs(Edges.with("num a at 0 to 3;", 255, 255, 255), 'a', 16777215, 0, 3, RIGHT);
  }

  static void p19_aSumIsOfMoreThanThreeBytes() {
    ByteIntervals x = new ByteIntervals();
    x.size(40);
    for (int p = 0; p < 40; p++) x.set(p, 255);
    Edges.read(x, "sum a at 39 of 0 to 40;");
    // 39 * 255 is 9945, by 256 it is 217.
    fieldIs(x, 'a', 217, 39, 40, WRONG);
    x.set(39, 217);
    fieldIs(x, 'a', 217, 39, 40, RIGHT);
  }

  static void p19_aSumIsMod256() {
    fieldIs(Edges.with("sum a at 0 of 1 to 3;", 0, 255, 0), 'a', 255, 0, 1, WRONG);
    fieldIs(Edges.with("sum a at 0 of 1 to 3;", 0, 255, 1), 'a', 0, 0, 1, RIGHT);
    fieldIs(Edges.with("sum a at 0 of 1 to 3;", 1, 255, 2), 'a', 1, 0, 1, RIGHT);
  }

  static void p19_manyAreWrongAtOnce() {
    ByteIntervals x = Edges.with("sum a at 0 of 1 to 2;nest b at 0 to 2;sum c at 1 of 0 to 1;nest d at 1 to 2;sum e at 2 of 2 to 2;", 9, 8, 0);
    for (int f = 0; f < 5; f++) due(x.field(0, f, 3), f == 4 ? RIGHT : WRONG);
  }

  static void p19_aSumOfNoneIs0() {
    fieldIs(Edges.with("sum a at 0 of 1 to 1;", 0, 5), 'a', 0, 0, 1, RIGHT);
    fieldIs(Edges.with("sum a at 0 of 2 to 2;", 3, 5), 'a', 0, 0, 1, WRONG);
  }

  static void p19_theByteAtFromCounts0() {
    fieldIs(Edges.with("sum a at 1 of 0 to 3;", 5, 9, 6), 'a', 11, 1, 2, WRONG);
    fieldIs(Edges.with("sum a at 0 of 0 to 1;", 9), 'a', 0, 0, 1, WRONG);
    fieldIs(Edges.with("sum a at 2 of 0 to 3;", 5, 9, 14), 'a', 14, 2, 3, RIGHT);
    // Outside of what is summed nothing is left out.
    fieldIs(Edges.with("sum a at 2 of 0 to 2;", 5, 9, 14), 'a', 14, 2, 3, RIGHT);
    fieldIs(Edges.with("sum a at 0 of 1 to 3;", 14, 9, 5), 'a', 14, 0, 1, RIGHT);
  }

  static void p19_aNestOfAsManyAsSizeIsBroken() {
    ByteIntervals x = Edges.with("nest a at 0 to size;nest b at 0 to size-1;nest c at 1 to size;nest d at 0 to 3;", 1, 2, 3);
    broken(x, 'a');
    due(x.field(0, 1, 3), WRONG);
    due(x.field(0, 2, 3), WRONG);
    broken(x, 'd');
  }

  static void p19_aNestOfNone() {
    fieldIs(Edges.with("nest a at 1 to 1;", 1), 'a', 1, 1, 1, WRONG);
    // In an interval of none it has as many as size.
    broken(Edges.with("nest a at 0 to 0;"), 'a');
  }

  static void p19_aNestsValueIsOneAndThoseOfItsNests() {
    // Two of them in two of them: 1 + 1 + 1, those in deep 2 being BROKEN.
    ByteIntervals x = Edges.with("nest a at 1 to size;nest b at 0 to size-1;num c at 0 to 1;", 1, 2, 3, 4);
    due(x.field(0, 0, 0), 3);
    due(x.field(0, 1, 0), 3);
    // Of one byte the nests in it are of none.
    x.size(2);
    due(x.field(0, 0, 0), 3);
    // Of none they are BROKEN.
    x.size(1);
    due(x.field(0, 0, 0), 1);
  }

  static void p19_aNestsBrokenNestsDoNotCount() {
    // Of size 4 b is in it, of size 3 it is not.
    ByteIntervals x = Edges.with("nest a at 1 to size;nest b at 3 to 4;", 1, 2, 3, 4);
    due(x.field(0, 0, 0), 2);
    due(x.inside(0, 0, 1, 3), BROKEN);
    x.size(5);
    due(x.field(0, 0, 0), 3);
  }

  static void p19_aNestIsNeverRight() {
    // Of its own nests those in deep 2 are BROKEN, and what holds a BROKEN or WRONG one is WRONG.
    ByteIntervals x = Edges.with("nest a at 1 to size;", 1, 2, 3);
    due(x.field(0, 0, 3), WRONG);
    due(x.inside(0, 0, 0, 3), WRONG);
    x.size(1);
    due(x.field(0, 0, 3), WRONG);
    due(x.inside(0, 0, 0, 3), BROKEN);
  }

  static void p19_onABrokenOneItIsBroken() {
    ByteIntervals x = Edges.with("num a at 9 to 9;num b at 0*a to 1;sum c at 0 of 0*a to 0;nest d at 0 to 1+0*a;sum e at 0 of 0 to 1+0*b;", 5, 6, 7);
    for (char f = 'a'; f <= 'e'; f++) broken(x, f);
  }

  static void p19_onOneThatIsNotChosenToo() {
    ByteIntervals x = Edges.with("num a at 9 to 9;num b at if 1=1 then 0 else a end to 1;num c at 0 to if 1=2 and a=a then 2 else 1 end;", 5, 6);
    broken(x, 'b');
    broken(x, 'c');
  }

  static void p19_onAWrongOneItIsNot() {
    ByteIntervals x = Edges.with("sum a at 0 of 1 to 2;num b at a to a+1;", 9, 1);
    due(x.field(0, 0, 3), WRONG);
    fieldIs(x, 'b', 1, 1, 2, RIGHT);
  }

  static void p19_oneNotToldIs0AndRight() {
    ByteIntervals x = Edges.with("num a at b to h+1;", 5, 6);
    fieldIs(x, 'a', 5, 0, 1, RIGHT);
  }

  static void p19_inRingAllAreBroken() {
    ByteIntervals x = Edges.with("num a at b*0 to 1;num b at a*0 to 1;num c at c*0 to 1;num d at a*0 to 1;num e at 0 to 1;", 5, 6);
    for (char f = 'a'; f <= 'd'; f++) broken(x, f);
    fieldIs(x, 'e', 5, 0, 1, RIGHT);
  }

  static void p19_eightFieldsInAChain() {
    ByteIntervals x = Edges.with("num a at b to b+1;num b at c to c+1;num c at d to d+1;num d at e to e+1;num e at f to f+1;num f at g to g+1;num g at h to h+1;num h at 0 to 1;", 1, 2, 3, 4, 5, 6, 7, 9);
    for (int i = 0; i < 8; i++) fieldIs(x, (char) ('h' - i), i == 7 ? 9 : i + 1, i, i + 1, RIGHT);
  }

  static void p19_ofTheTextAskedFor() {
    ByteIntervals x = Edges.with("num a at 0 to 1;", 5, 6);
    Edges.read(x, "num a at 1 to 2;");
    due(x.field(0, 0, 0), 5);
    due(x.field(1, 0, 0), 6);
  }

  // ---- Promise 20: inside ----

  static void p20_othersAreBelowNone() {
    ByteIntervals x = Edges.with("nest a at 1 to size;num b at 0 to 1;sum c at 0 of 0 to 1;", 1, 2, 3);
    due(x.inside(0, 0, 1, 0), 2);
    due(x.inside(1, 0, 1, 0), -2);
    due(x.inside(-1, 0, 1, 0), -2);
    due(x.inside(0, -1, 1, 0), -2);
    due(x.inside(0, 8, 1, 0), -2);
    due(x.inside(0, 0, -1, 0), -2);
    due(x.inside(0, 0, 8, 0), -2);
    due(x.inside(0, 0, 1, -1), -2);
    due(x.inside(0, 0, 1, 4), -2);
    due(x.inside(MAX, MAX, MAX, MAX), -2);
    due(x.inside(MIN, MIN, MIN, MIN), -2);
    due(x.inside(0, MAX, 1, 0), -2);
    due(x.inside(0, 0, MIN, 0), -2);
  }

  static void p20_ofWhatIsNoNest() {
    ByteIntervals x = Edges.with("nest a at 1 to size;num b at 0 to 1;sum c at 0 of 0 to 1;", 1, 2, 3);
    for (int what = 0; what < 4; what++) {
      due(x.inside(0, 1, 1, what), -2);
      due(x.inside(0, 2, 1, what), -2);
      due(x.inside(0, 3, 1, what), -2);
    }
  }

  static void p20_ofABrokenNest() {
    ByteIntervals x = Edges.with("nest a at 0 to size;num b at 0 to 1;nest c at c*0 to 1;", 1, 2, 3);
    due(x.inside(0, 0, 1, 0), -2);
    due(x.inside(0, 0, 1, 3), -2);
    due(x.inside(0, 2, 1, 3), -2);
    due(x.inside(0, 0, 5, 3), -2);
  }

  static void p20_ofOneNotToldJustHowItIs() {
    ByteIntervals x = Edges.with("nest a at 1 to size;", 1, 2, 3);
    for (int what = 0; what < 3; what++) due(x.inside(0, 0, 7, what), -2);
    due(x.inside(0, 0, 7, 3), NOT_TOLD);
  }

  static void p20_ofABrokenOneNone() {
    ByteIntervals x = Edges.with("nest a at 1 to size;num b at 2 to 3;", 1, 2, 3);
    due(x.field(0, 1, 0), 3);
    for (int what = 0; what < 3; what++) due(x.inside(0, 0, 1, what), -1);
    due(x.inside(0, 0, 1, 3), BROKEN);
  }

  static void p20_placesAreCountedFromItsFirstByteOn() {
    ByteIntervals x = Edges.with("nest a at 2 to size;num b at 1 to 2;sum c at 0 of 1 to size;", 10, 11, 12, 13, 14);
    due(x.inside(0, 0, 1, 0), 13);
    due(x.inside(0, 0, 1, 1), 1);
    due(x.inside(0, 0, 1, 2), 2);
    due(x.inside(0, 0, 2, 0), 27);
    due(x.inside(0, 0, 2, 1), 0);
    due(x.inside(0, 0, 2, 2), 1);
    due(x.inside(0, 0, 2, 3), WRONG);
    x.set(2, 27);
    due(x.inside(0, 0, 2, 3), RIGHT);
  }

  static void p20_sizeIsHowManyBytesItHas() {
    ByteIntervals x = Edges.with("nest a at 1 to 4;num b at size to size;num c at size to size+1;num d at size-1 to size;", 1, 2, 3, 4, 5, 6);
    due(x.inside(0, 0, 1, 1), 3);
    due(x.inside(0, 0, 2, 3), BROKEN);
    due(x.inside(0, 0, 3, 0), 4);
  }

  static void p20_peeksAreOfIt() {
    ByteIntervals x = Edges.with("nest a at 1 to 3;num b at 0 to if peek 0=2 and peek 1=3 and peek 2=0 and peek -1=0 then 1 else 9 end;", 1, 2, 3, 4);
    due(x.field(0, 1, 3), BROKEN);
    due(x.inside(0, 0, 1, 0), 2);
  }

  static void p20_deepIs1InIt() {
    ByteIntervals x = Edges.with("nest a at 1 to size;num b at deep to deep+1;", 1, 2, 3);
    due(x.field(0, 1, 1), 0);
    due(x.inside(0, 0, 1, 1), 1);
    due(x.inside(0, 0, 1, 0), 3);
  }

  static void p20_ofANestOfNone() {
    ByteIntervals x = Edges.with("nest a at 1 to 1;num b at 0 to 0;num c at 0 to 1;", 1, 2, 3);
    due(x.inside(0, 0, 1, 0), 0);
    due(x.inside(0, 0, 1, 3), RIGHT);
    due(x.inside(0, 0, 2, 3), BROKEN);
    due(x.inside(0, 0, 0, 3), BROKEN);
  }

  static void p20_aNestInANest() {
    ByteIntervals x = Edges.with("nest a at 1 to size;nest b at 0 to 2;", 1, 2, 3, 4);
    due(x.inside(0, 0, 0, 0), 1);
    due(x.inside(0, 0, 0, 1), 1);
    due(x.inside(0, 0, 0, 2), 3);
    due(x.inside(0, 0, 1, 2), 2);
    // b has two bytes: in it b itself is BROKEN.
    due(x.inside(0, 1, 1, 3), BROKEN);
    due(x.inside(0, 1, 0, 3), WRONG);
  }

  // ---- Promise 21: order ----

  static void p21_theLowestThatIsReady() {
    ByteIntervals x = Edges.with("num a at d to 1;num b at 0 to 1;num c at a to 1;num d at b to 1;num h at 0 to 1;");
    int[] want = {1, 3, 0, 2, 7, -1, -1, -1};
    for (int i = 0; i < 8; i++) due(x.order(0, i), want[i]);
  }

  static void p21_againAndAgainTheLowest() {
    // Behind c it is a again that is lowest, ahead of d.
    ByteIntervals x = Edges.with("num a at c to 1;num d at 0 to 1;num c at 0 to 1;");
    int[] want = {2, 0, 3, -1};
    for (int i = 0; i < 4; i++) due(x.order(0, i), want[i]);
  }

  static void p21_whatIsNotToldHoldsNoneUp() {
    ByteIntervals x = Edges.with("num a at b to h;num c at 0 to 1;");
    due(x.order(0, 0), 0);
    due(x.order(0, 1), 2);
    due(x.order(0, 2), -1);
  }

  static void p21_whatIsInRingDoesNotCome() {
    ByteIntervals x = Edges.with("num a at a to 1;num b at 0 to 1;num c at a to 1;");
    due(x.order(0, 0), 1);
    due(x.order(0, 1), -1);
  }

  static void p21_brokenOnesCome() {
    ByteIntervals x = Edges.with("num a at 50 to 51;num b at a to 1;");
    due(x.order(0, 0), 0);
    due(x.order(0, 1), 1);
  }

  static void p21_allEight() {
    ByteIntervals x = Edges.with("num a at b to 1;num b at c to 1;num c at d to 1;num d at e to 1;num e at f to 1;num f at g to 1;num g at h to 1;num h at 0 to 1;");
    for (int i = 0; i < 8; i++) due(x.order(0, i), 7 - i);
    due(x.order(0, 8), -1);
  }

  static void p21_othersAreNone() {
    ByteIntervals x = Edges.with("num a at 0 to 1;");
    due(x.order(0, -1), -1);
    due(x.order(0, 1), -1);
    due(x.order(0, MAX), -1);
    due(x.order(0, MIN), -1);
    due(x.order(1, 0), -1);
    due(x.order(-1, 0), -1);
    due(Edges.with("").order(0, 0), -1);
  }

  // ---- Promise 22: ring ----

  static void p22_onItself() {
    due(Edges.with("num a at a to 1;").ring(0), 1);
    due(Edges.with("num h at 0 to h;").ring(0), 128);
    due(Edges.with("sum c at 0 of c to 1;").ring(0), 4);
  }

  static void p22_thoseThatHangOnARing() {
    due(Edges.with("num a at b to 1;num b at a to 1;num c at a to 1;num d at c to 1;num e at f to 1;").ring(0), 15);
  }

  static void p22_chosenOrNot() {
    due(Edges.with("num a at if 1=1 then 0 else a end to 1;").ring(0), 1);
    due(Edges.with("num a at 0*peek a to 1;").ring(0), 1);
  }

  static void p22_aMustMakesNoRing() {
    due(Edges.with("num a at 0 to 1;must a=a;").ring(0), 0);
  }

  static void p22_allEight() {
    due(Edges.with("num a at b to 1;num b at c to 1;num c at d to 1;num d at e to 1;num e at f to 1;num f at g to 1;num g at h to 1;num h at a to 1;").ring(0), 255);
  }

  static void p22_othersAreNone() {
    ByteIntervals x = Edges.with("");
    due(x.ring(0), 0);
    due(x.ring(1), -1);
    due(x.ring(-1), -1);
    due(x.ring(MAX), -1);
    due(x.ring(MIN), -1);
  }

  // ---- Promise 23: overlap ----

  static void p23_whatTouchesHasNoByteInCommon() {
    ByteIntervals x = Edges.with("num a at 0 to 2;num b at 2 to 4;num c at 1 to 2;num d at 3 to 4;", 1, 2, 3, 4);
    due(x.overlap(0, 0), 4);
    due(x.overlap(0, 1), 8);
    due(x.overlap(0, 2), 1);
    due(x.overlap(0, 3), 2);
  }

  static void p23_oneByteInCommon() {
    ByteIntervals x = Edges.with("num a at 0 to 3;num b at 2 to 4;", 1, 2, 3, 4);
    due(x.overlap(0, 0), 2);
    due(x.overlap(0, 1), 1);
  }

  static void p23_ofASumItsOneByte() {
    ByteIntervals x = Edges.with("sum a at 0 of 1 to 4;num b at 1 to 4;num c at 0 to 1;sum d at 0 of 0 to 0;", 1, 2, 3, 4);
    due(x.overlap(0, 0), 4 + 8);
    due(x.overlap(0, 1), 0);
    due(x.overlap(0, 2), 1 + 8);
  }

  static void p23_otherFieldsAlone() {
    due(Edges.with("num a at 0 to 1;", 1).overlap(0, 0), 0);
  }

  static void p23_brokenOnesAreNotIn() {
    ByteIntervals x = Edges.with("num a at 0 to 2;num b at 0 to 4;num c at c*0 to 2;", 1, 2, 3, 4);
    due(x.overlap(0, 0), 0);
    due(x.overlap(0, 1), -1);
    due(x.overlap(0, 2), -1);
  }

  static void p23_wrongOnesAreIn() {
    ByteIntervals x = Edges.with("nest a at 0 to 3;sum b at 2 of 0 to 1;num c at 3 to 4;", 1, 2, 3, 4);
    due(x.field(0, 0, 3), WRONG);
    due(x.overlap(0, 0), 2);
    due(x.overlap(0, 1), 1);
  }

  static void p23_ofNoneNone() {
    ByteIntervals x = Edges.with("num a at 1 to 1;num b at 0 to 2;nest c at 1 to 1;", 1, 2, 3);
    due(x.overlap(0, 0), 0);
    due(x.overlap(0, 1), 0);
    due(x.overlap(0, 2), 0);
  }

  static void p23_atTheLastPlaceAndTheLastField() {
    ByteIntervals x = new ByteIntervals();
    x.size(40);
    Edges.read(x, "num a at 37 to 40;sum h at 39 of 0 to 0;");
    due(x.overlap(0, 0), 128);
    due(x.overlap(0, 7), 1);
  }

  static void p23_othersAreNone() {
    ByteIntervals x = Edges.with("num a at 0 to 1;", 1);
    due(x.overlap(0, 1), -1);
    due(x.overlap(0, 8), -1);
    due(x.overlap(0, -1), -1);
    due(x.overlap(1, 0), -1);
    due(x.overlap(-1, 0), -1);
    due(x.overlap(0, MAX), -1);
    due(x.overlap(MIN, MIN), -1);
  }

  // ---- Promise 24: loose ----

  static void p24_placesOfTheFileAlone() {
    ByteIntervals x = Edges.with("", 1, 2, 3);
    due(x.loose(0), 7);
    x.size(0);
    due(x.loose(0), 0);
    x.size(40);
    due(x.loose(0), (1L << 40) - 1);
  }

  static void p24_fromIsInAndToIsNot() {
    due(Edges.with("num a at 1 to 3;", 1, 2, 3, 4).loose(0), bits(0, 3));
    due(Edges.with("num a at 1 to 1;", 1, 2, 3, 4).loose(0), bits(0, 1, 2, 3));
  }

  static void p24_ofASumItsOneByte() {
    due(Edges.with("sum a at 1 of 0 to 4;", 1, 2, 3, 4).loose(0), bits(0, 2, 3));
  }

  static void p24_brokenOnesHoldNone() {
    due(Edges.with("num a at 0 to 4;num b at b*0 to 1;nest c at 0 to 4;num d at 0 to 1;", 1, 2, 3, 4).loose(0), bits(1, 2, 3));
  }

  static void p24_wrongOnesHoldTheirs() {
    due(Edges.with("nest a at 0 to 2;sum b at 3 of 0 to 1;", 1, 2, 3, 4).loose(0), bits(2));
  }

  static void p24_whatIsInANestIsNotAskedFor() {
    due(Edges.with("nest a at 1 to 3;num b at 2 to 2;", 1, 2, 3, 4).loose(0), bits(0, 3));
  }

  static void p24_theLastPlace() {
    ByteIntervals x = new ByteIntervals();
    x.size(40);
    Edges.read(x, "nest a at 0 to 39;");
    due(x.loose(0), 1L << 39);
    Edges.read(x, "nest a at 1 to 40;");
    due(x.loose(1), 1);
  }

  static void p24_othersAreNone() {
    ByteIntervals x = Edges.with("", 1);
    due(x.loose(1), -1);
    due(x.loose(-1), -1);
    due(x.loose(MAX), -1);
    due(x.loose(MIN), -1);
  }

  // ---- Promise 25: needs ----

  static void p25_aNumLooksAtItsBytes() {
    ByteIntervals x = Edges.with("num a at 1 to 3;num b at 2 to 2;num c at 0 to 3;", 1, 2, 3, 4);
    due(x.needs(0, 0), bits(1, 2));
    due(x.needs(0, 1), 0);
    due(x.needs(0, 2), bits(0, 1, 2));
  }

  static void p25_aSumLooksAtItsBytesAndAtThatAtFrom() {
    ByteIntervals x = Edges.with("sum a at 0 of 2 to 4;sum b at 3 of 2 to 4;sum c at 1 of 2 to 2;", 1, 2, 3, 4);
    due(x.needs(0, 0), bits(0, 2, 3));
    due(x.needs(0, 1), bits(2, 3));
    due(x.needs(0, 2), bits(1));
  }

  static void p25_aPeekLooksInTheIntervalAlone() {
    ByteIntervals x = Edges.with("num a at 0*peek 3 to 0;num b at 0*peek 4 to 0;num c at 0*peek -1 to 0;num d at 0*peek 0 to 0;num e at 0*peek 9999 to 0;", 1, 2, 3, 4);
    due(x.needs(0, 0), bits(3));
    due(x.needs(0, 1), 0);
    due(x.needs(0, 2), 0);
    due(x.needs(0, 3), bits(0));
    due(x.needs(0, 4), 0);
  }

  static void p25_aPeekOfAPeekLooksAtBoth() {
    due(Edges.with("num a at 0*peek peek 0 to 0;", 2, 0, 3).needs(0, 0), bits(0, 2));
  }

  static void p25_chosenOnesAlone() {
    ByteIntervals x = Edges.with("num a at if peek 0=1 then peek 1 else peek 2 end*0 to 0;", 1, 0, 0);
    due(x.needs(0, 0), bits(0, 1));
    x.set(0, 2);
    due(x.needs(0, 0), bits(0, 2));
  }

  static void p25_peeksOfWhatIsNotBrokenToo() {
    ByteIntervals x = Edges.with("num a at 0*peek 2 to 1;sum b at 0 of 1+0*peek 2 to 2+0*peek 3;nest c at 1+0*peek 3 to 1;", 1, 2, 3, 4, 5);
    due(x.needs(0, 0), bits(0, 2));
    due(x.needs(0, 1), bits(0, 1, 2, 3));
    due(x.needs(0, 2), bits(3));
  }

  static void p25_asNow() {
    // The must in the nest peeks where its first byte tells.
    ByteIntervals x = Edges.with("nest d at 2 to 5;must peek peek 0=0;", 1, 2, 1, 4, 5);
    due(x.needs(0, 3), bits(2, 3));
    x.set(2, 2);
    due(x.needs(0, 3), bits(2, 4));
    x.set(2, 9);
    due(x.needs(0, 3), bits(2));
    x = Edges.with("num a at 0 to 1+0*peek 1;num b at a*0+2 to 3;num c at a to 1;", 0, 2, 3);
    due(x.needs(0, 1), bits(0, 1, 2));
    due(x.needs(0, 2), bits(0, 1));
    // b looks while a is not BROKEN.
    x = Edges.with("num a at peek 0 to 3;num b at 0*a to 2+0*peek 3;", 0, 2, 3, 4);
    due(x.needs(0, 1), bits(0, 1, 2, 3));
    x.set(0, 9);
    due(x.needs(0, 1), bits(0));
  }

  static void p25_orAndAndLookAtBothSides() {
    due(Edges.with("num a at if 1=2 and peek 1=0 then 1 else 0 end to 1;", 1, 2).needs(0, 0), bits(0, 1));
    due(Edges.with("num a at if 1=1 or peek 1=0 then 0 else 1 end to 0;", 1, 2).needs(0, 0), bits(1));
    due(Edges.with("num a at if not 1=2 or peek 1=0 and peek 0=0 then 0 else 1 end to 0;", 1, 2).needs(0, 0), bits(0, 1));
  }

  static void p25_whatIsTimes0IsLookedAtToo() {
    due(Edges.with("num a at 0*peek 1+0/peek 2 to 0;", 1, 2, 3).needs(0, 0), bits(1, 2));
  }

  static void p25_allItHangsOnAndSoOn() {
    ByteIntervals x = Edges.with("num a at 0 to 1;num b at a*0+1 to 2;num c at b*0+2 to 3;num d at 3 to 4;", 1, 2, 3, 4);
    due(x.needs(0, 0), bits(0));
    due(x.needs(0, 1), bits(0, 1));
    due(x.needs(0, 2), bits(0, 1, 2));
    due(x.needs(0, 3), bits(3));
  }

  static void p25_hangingIsByNameChosenOrNot() {
    ByteIntervals x = Edges.with("num a at 0 to 1;num b at if 1=1 then 1 else a end to 2;", 1, 2, 3, 4);
    due(x.needs(0, 1), bits(0, 1));
  }

  static void p25_whatIsNotToldIsNotLookedAt() {
    due(Edges.with("num a at h to 1;", 1, 2).needs(0, 0), bits(0));
  }

  static void p25_ofOneInRingNone() {
    ByteIntervals x = Edges.with("num a at a*0+peek 1 to 1;num b at c*0 to 1;num c at a to peek 0;num d at 0 to 1;num e at d+a to 1;", 1, 2);
    due(x.needs(0, 0), 0);
    due(x.needs(0, 1), 0);
    due(x.needs(0, 2), 0);
    due(x.needs(0, 4), 0);
    // Nor what others look at.
    due(Edges.with("num a at 0 to 1;num b at b to 1;num c at 0 to a*0+b;", 1, 2).needs(0, 1), 0);
    due(Edges.with("num a at 0 to 1;num b at b to 1;num c at 0 to a*0+b;", 1, 2).needs(0, 2), 0);
  }

  static void p25_onABrokenOneNoneOfItsOwn() {
    ByteIntervals x = Edges.with("num a at peek 3 to 1;num b at a*0+peek 1 to 1;num c at 2 to 3;num d at a+c+peek 0 to 4;", 9, 9, 9, 9);
    due(x.needs(0, 0), bits(3));
    due(x.needs(0, 1), bits(3));
    // All it hangs on is looked at nevertheless.
    due(x.needs(0, 3), bits(2, 3));
  }

  static void p25_itsBytesOnlyIfItIsNotBroken() {
    ByteIntervals x = Edges.with("num a at 0 to 4;sum b at 9 of 0 to 4;sum c at 0 of 1 to 9;nest d at 0 to size;num e at 2 to 1;", 1, 2, 3, 4);
    for (int f = 0; f < 5; f++) due(x.needs(0, f), 0);
    x = Edges.with("num a at 0*peek 0 to 4+0*peek 1;sum b at 9+peek 1 of 0*peek 2 to 4*peek 3;nest d at 0*peek 0 to size*peek 3;num e at 2 to 1+0*peek 3;", 1, 2, 3, 4);
    due(x.needs(0, 0), bits(0, 1));
    due(x.needs(0, 1), bits(1, 2, 3));
    due(x.needs(0, 3), bits(0, 3));
    due(x.needs(0, 4), bits(3));
  }

  static void p25_allSumsOfItsIntervalAreLookedAt() {
    // FROM is below 0 already: TO is asked for nevertheless.
    due(Edges.with("num a at -1 to peek 1;", 1, 2).needs(0, 0), bits(1));
    due(Edges.with("sum a at -1 of peek 0 to peek 1;", 1, 2).needs(0, 0), bits(0, 1));
  }

  static void p25_aNestLooksAtWhatItsFieldsDo() {
    // In a (2 to 4): b at its first byte; a itself is BROKEN there (2 to 4 of 2).
    ByteIntervals x = Edges.with("nest a at 2 to 4;num b at 0 to 1;", 1, 2, 3, 4, 5);
    due(x.needs(0, 0), bits(2));
    due(x.needs(0, 1), bits(0));
  }

  static void p25_aNestLooksAtWhatItsMustsDo() {
    due(Edges.with("nest a at 2 to 4;must peek 1=7;", 1, 2, 3, 4, 5).needs(0, 0), bits(3));
    due(Edges.with("must peek 1=7;must peek 0=7;nest a at 2 to 4;", 1, 2, 3, 4, 5).needs(0, 0), bits(2, 3));
    // In the interval alone, though THE FILE has more.
    due(Edges.with("nest a at 2 to 4;must peek 2=7;must peek -1=7;", 1, 2, 3, 4, 5).needs(0, 0), 0);
  }

  static void p25_theMustsOfTheFileAreNotLookedAt() {
    due(Edges.with("num a at 0 to 1;must peek 2=7;", 1, 2, 3).needs(0, 0), bits(0));
    due(Edges.with("nest a at 0 to 1;must peek 2=7;", 1, 2, 3).needs(0, 0), 0);
  }

  static void p25_aMustThatNamesABrokenOneHasNoPeeks() {
    // b is BROKEN in a (of 2 bytes), but for its SUM.
    ByteIntervals x = Edges.with("nest a at 2 to 4;num b at peek 1 to 9;must b=peek 0;", 1, 2, 3, 4, 5);
    due(x.needs(0, 0), bits(3));
    x = Edges.with("nest a at 2 to 4;num b at 1 to 2;must b=peek 0;", 1, 2, 3, 4, 5);
    due(x.needs(0, 0), bits(2, 3));
    // Chosen or not.
    x = Edges.with("nest a at 2 to 4;num b at 9 to 9;must if 1=1 then 1 else b end=peek 0;", 1, 2, 3, 4, 5);
    due(x.needs(0, 0), 0);
  }

  static void p25_nestsInNestsToo() {
    // a is 1 to 6 of 6, in it 2 to 6, in that 3 to 6 is BROKEN; b is at the first byte of each.
    ByteIntervals x = Edges.with("nest a at 1 to size;num b at 0 to 1;", 1, 2, 3, 4, 5, 6);
    due(x.needs(0, 0), bits(1, 2));
    x = Edges.with("nest a at 1 to size;must peek 0=1;", 1, 2, 3, 4, 5, 6);
    due(x.needs(0, 0), bits(1, 2));
  }

  static void p25_inDeep2ANestsSumsAreLookedAt() {
    // Its SUM peeks at the last byte of each interval: of 6 bytes 5, of 4 (1 to 5) 4, of 2 (2 to 4) 3.
    ByteIntervals x = Edges.with("nest a at 1+0*peek (size-1) to size-1;", 1, 2, 3, 4, 5, 6);
    due(x.needs(0, 0), bits(5, 4, 3));
  }

  static void p25_inANestOneInRingLooksAtNone() {
    ByteIntervals x = Edges.with("nest a at 1 to size;num b at b*0+peek 1 to 2;", 1, 2, 3, 4);
    due(x.needs(0, 0), 0);
  }

  static void p25_inANestOneOnABrokenOneLooksAtNone() {
    ByteIntervals x = Edges.with("nest a at 1 to size;num b at 3 to 4;num c at b*0+peek 1 to 2;", 1, 0, 3, 9);
    // b is in THE FILE, but not in a, nor in what is in a; so c looks at none there.
    due(x.needs(0, 0), 0);
    due(x.needs(0, 2), bits(3, 1, 0));
  }

  static void p25_theLastPlaceIsABit() {
    ByteIntervals x = new ByteIntervals();
    x.size(40);
    Edges.read(x, "num a at 39 to 40;sum b at 0 of 0 to 40;num c at 0*peek 39 to 0;nest d at 39 to 40;");
    due(x.needs(0, 0), 1L << 39);
    due(x.needs(0, 1), (1L << 40) - 1);
    due(x.needs(0, 2), 1L << 39);
  }

  static void p25_othersAreNone() {
    ByteIntervals x = Edges.with("num a at 0 to 1;", 1);
    due(x.needs(0, 1), -1);
    due(x.needs(0, 7), -1);
    due(x.needs(0, 8), -1);
    due(x.needs(0, -1), -1);
    due(x.needs(1, 0), -1);
    due(x.needs(-1, 0), -1);
    due(x.needs(0, MAX), -1);
    due(x.needs(MIN, MIN), -1);
  }

  // ---- Promise 26: flips ----

  static void p26_theByteIs255LessIt() {
    for (int v : new int[] {0, 255, 127, 128, 1}) {
      for (int k = 253 - v; k <= 257 - v; k++) {
        // BROKEN, if the byte is k.
        if (k < 0 || k == v) continue;
        due(Edges.with("num a at 0 to if peek 0=" + k + " then 9 else 0 end;", v).flips(0, 0), k == 255 - v ? 1 : 0);
      }
    }
  }

  static void p26_placesOfTheFile() {
    ByteIntervals x = Edges.with("num a at 0 to 2;", 1, 2);
    due(x.flips(0, 0), 1);
    due(x.flips(0, 1), 1);
    due(x.flips(0, 2), -1);
    due(x.flips(0, 39), -1);
    due(x.flips(0, -1), -1);
    due(x.flips(0, 40), -1);
    due(x.flips(0, MAX), -1);
    due(x.flips(0, MIN), -1);
    x.size(0);
    due(x.flips(0, 0), -1);
    x.size(40);
    due(x.flips(0, 39), 0);
    due(x.flips(0, 40), -1);
  }

  static void p26_othersAreNone() {
    ByteIntervals x = Edges.with("num a at 0 to 1;", 1);
    due(x.flips(1, 0), -1);
    due(x.flips(-1, 0), -1);
    due(x.flips(MAX, 0), -1);
  }

  static void p26_howItIsAlone() {
    // The byte at FROM of a sum: its value stays.
    due(Edges.with("sum a at 0 of 1 to 2;", 5, 5).flips(0, 0), 1);
    // It stays WRONG.
    due(Edges.with("sum a at 0 of 1 to 2;", 5, 7).flips(0, 0), 0);
    // RIGHT only by then.
    due(Edges.with("sum a at 0 of 1 to 2;", 5, 250).flips(0, 0), 1);
  }

  static void p26_theValueAlone() {
    due(Edges.with("num a at 0 to 1;", 5).flips(0, 0), 1);
    // WRONG in both.
    due(Edges.with("sum a at 0 of 1 to 2;", 5, 7).flips(0, 1), 1);
    due(Edges.with("nest a at peek 0 to size-1;", 1, 7, 8).flips(0, 0), 1);
  }

  static void p26_brokenThenAndBrokenNow() {
    ByteIntervals x = Edges.with("num a at peek 0 to peek 0;num b at 255-peek 0 to 255-peek 0;num c at 9 to 9;", 1, 2);
    // a is BROKEN then (at 254), b now, c in both.
    due(x.flips(0, 0), 3);
  }

  static void p26_whereItIsIsNotAsked() {
    // Of none at another place: value and how it is stay.
    ByteIntervals x = Edges.with("num a at if peek 0=1 then 0 else 1 end to if peek 0=1 then 0 else 1 end;", 1, 2);
    due(x.flips(0, 0), 0);
  }

  static void p26_fieldsToldAlone() {
    due(Edges.with("num h at 0 to 1;", 1).flips(0, 0), 128);
    due(Edges.with("must peek 0=1;", 1).flips(0, 0), 0);
  }

  static void p26_nothingIsDone() {
    ByteIntervals x = Edges.with("num a at 0 to 1;", 1);
    x.flips(0, 0);
    due(x.at(0), 1);
    due(x.about(2), 2);
    due(x.field(0, 0, 0), 1);
  }

  // ---- Promise 27: sure ----

  static void p27_shorterForEachSize1To40() {
    due(Edges.with("nest a at 1 to size;").sure(0, 0), true);
    due(Edges.with("nest a at 0 to size;").sure(0, 0), false);
    due(Edges.with("nest a at 0 to size-1;").sure(0, 0), true);
    // As long as size 1 alone, as 40 alone, as 41 (never in it), as 20 alone.
    due(Edges.with("nest a at 0 to 1;").sure(0, 0), false);
    due(Edges.with("nest a at 0 to 40;").sure(0, 0), false);
    due(Edges.with("nest a at 0 to 41;").sure(0, 0), true);
    due(Edges.with("nest a at 0 to 20;").sure(0, 0), false);
    // Of size 0 it would be: that is none of them.
    due(Edges.with("nest a at 0 to 0;").sure(0, 0), true);
  }

  static void p27_whatIsNotInItDoesNotCount() {
    due(Edges.with("nest a at -1 to size-1;").sure(0, 0), true);
    due(Edges.with("nest a at 1 to size+1;").sure(0, 0), true);
    due(Edges.with("nest a at 1 to 0;").sure(0, 0), true);
    // Shorter where it is in it, as long where it is not.
    due(Edges.with("nest a at if size<40 then -1 else 1 end to if size<40 then size-1 else 40 end;").sure(0, 0), true);
  }

  static void p27_namingAFieldItIsNot() {
    due(Edges.with("nest a at 1+0*b to size;num b at 0 to 1;").sure(0, 0), false);
    due(Edges.with("nest a at 1+0*h to size;").sure(0, 0), false);
    due(Edges.with("nest a at 1 to if 1=1 then size else b end;").sure(0, 0), false);
    due(Edges.with("nest a at 1+0*a to size;").sure(0, 0), false);
  }

  static void p27_namingDeepItIsNot() {
    due(Edges.with("nest a at 1+0*deep to size;").sure(0, 0), false);
    due(Edges.with("nest a at 1 to size-0*deep;").sure(0, 0), false);
  }

  static void p27_peekingItIsNot() {
    due(Edges.with("nest a at 1+0*peek 0 to size;").sure(0, 0), false);
    due(Edges.with("nest a at 1 to size-0*peek 0;").sure(0, 0), false);
  }

  static void p27_othersOfTheSameTextDoNotCount() {
    ByteIntervals x = Edges.with("num b at deep to peek a;nest a at 1 to size;must deep=peek 0+b;nest c at 1 to size;rots peek 0;");
    due(x.sure(0, 0), true);
    due(x.sure(0, 2), true);
    due(x.sure(0, 1), false);
  }

  static void p27_theFileIsNotAskedFor() {
    ByteIntervals x = Edges.with("nest a at 0 to 20;nest b at 1 to size;", 1, 2);
    due(x.sure(0, 0), false);
    due(x.sure(0, 1), true);
    x.size(0);
    due(x.sure(0, 1), true);
  }

  static void p27_whatIsNoNestIsNot() {
    ByteIntervals x = Edges.with("num a at 1 to size;sum b at 0 of 1 to size;", 1, 2);
    for (int f = 0; f < 8; f++) due(x.sure(0, f), false);
  }

  static void p27_othersAreFalse() {
    ByteIntervals x = Edges.with("nest a at 1 to size;");
    due(x.sure(0, 1), false);
    due(x.sure(0, 8), false);
    due(x.sure(0, -1), false);
    due(x.sure(1, 0), false);
    due(x.sure(-1, 0), false);
    due(x.sure(MAX, MAX), false);
    due(x.sure(MIN, MIN), false);
  }

  // ---- Promise 28: least ----

  static void p28_from0To40() {
    due(Edges.with("", 1, 2).least(0), 0);
    due(Edges.with("must size>=1;", 1, 2).least(0), 1);
    due(Edges.with("must size=40;", 1, 2).least(0), 40);
    due(Edges.with("must size=41;", 1, 2).least(0), -1);
    due(Edges.with("must 1=2;", 1, 2).least(0), -1);
  }

  static void p28_bytesThatComeAre0() {
    due(Edges.with("num a at 3 to 4;must a=0;", 1, 2).least(0), 4);
    due(Edges.with("num a at 3 to 4;must a=1;", 1, 2).least(0), -1);
    due(Edges.with("num a at 1 to 3;must a=512;", 1, 2).least(0), 3);
  }

  static void p28_bytesBeyondAreGone() {
    // peek 2 is 0 where it is gone.
    due(Edges.with("must peek 2=0;must size>0;", 1, 2, 3).least(0), 1);
    due(Edges.with("must peek 2=3;", 1, 2, 3).least(0), 3);
    due(Edges.with("sum a at 0 of 1 to size;", 2, 2, 3).least(0), 2);
  }

  static void p28_theLeastThoughThatOfNowIsOne() {
    due(Edges.with("must size#2;must size>0;", 1, 2, 3).least(0), 1);
    due(Edges.with("must size=1 or size=3;", 1, 2, 3).least(0), 1);
  }

  static void p28_nothingIsDone() {
    ByteIntervals x = Edges.with("must size=40;", 1, 2, 3);
    x.least(0);
    due(x.is(2), 3);
    due(x.is(3), 6);
    due(x.about(2), 4);
  }

  static void p28_othersAreNone() {
    ByteIntervals x = Edges.with("", 1);
    due(x.least(1), -1);
    due(x.least(-1), -1);
    due(x.least(MAX), -1);
    due(x.least(MIN), -1);
  }

  // ---- Promise 29: make ----

  static void p29_theLowestPlaceThenTheLowestByte() {
    // Both could: the sum of places 0 and 1.
    due(Edges.with("sum a at 2 of 0 to 2;", 1, 1, 0).make(0, 0, 9), 8);
    // Many bytes could: from 5 on.
    due(Edges.with("num a at if peek 0>=5 then 1 else 0 end to 1;", 0).make(0, 0, 0), 5);
    due(Edges.with("num a at if peek 1>=5 then 0 else 1 end to 1;", 7, 0).make(0, 0, 7), 256 + 5);
  }

  static void p29_aByteOtherThanThatThere() {
    // It is so already: another place.
    due(Edges.with("num a at 0 to 1;", 5, 6).make(0, 0, 5), 256);
    due(Edges.with("num a at 0 to 1;", 5, 0).make(0, 0, 5), 256 + 1);
    due(Edges.with("num a at 0 to 1;", 5).make(0, 0, 5), -1);
    due(Edges.with("num a at 1 to 2;", 0, 5).make(0, 0, 5), 1);
    due(Edges.with("num a at 1 to 2;", 9, 5).make(0, 0, 5), 0);
  }

  static void p29_bytesAre0To255() {
    due(Edges.with("num a at 0 to 1;", 5).make(0, 0, 0), 0);
    due(Edges.with("num a at 0 to 1;", 5).make(0, 0, 255), 255);
    due(Edges.with("num a at 0 to 1;", 5).make(0, 0, 256), -1);
  }

  static void p29_placesOfTheFile() {
    due(Edges.with("num a at size-1 to size;", 5, 6, 7).make(0, 0, 9), 512 + 9);
    due(Edges.with("num a at 0 to 0*peek 3;", 5, 6, 7).make(0, 0, 1), -1);
    due(Edges.with("num a at 0 to 0;").make(0, 0, 0), -1);
    ByteIntervals x = new ByteIntervals();
    x.size(40);
    Edges.read(x, "num a at 39 to 40;");
    due(x.make(0, 0, 9), 39 * 256 + 9);
  }

  static void p29_noSingleByteIsNone() {
    due(Edges.with("num a at 0 to 2;", 0, 0).make(0, 0, 257), -1);
    due(Edges.with("num a at 0 to 2;", 1, 0).make(0, 0, 257), 256 + 1);
    due(Edges.with("num a at 0 to 2;", 0, 1).make(0, 0, 257), 1);
  }

  static void p29_notBroken() {
    due(Edges.with("num a at 0 to 4;", 1, 2, 3, 4).make(0, 0, 0), -1);
    due(Edges.with("num a at a to 1;", 1, 2, 3, 4).make(0, 0, 0), -1);
    // Of 2 and 3 it is in it.
    due(Edges.with("num a at peek 0 to peek 0;", 9, 7).make(0, 0, 0), 0);
    due(Edges.with("num a at peek 0 to peek 0;", 0, 7).make(0, 0, 0), 1);
  }

  static void p29_wrongMayBe() {
    due(Edges.with("sum a at 0 of 1 to 2;", 5, 6).make(0, 0, 6), 0);
    due(Edges.with("sum a at 0 of 1 to 2;", 5, 6).make(0, 0, 7), 256 + 7);
    // By byte 1 its one byte holds no nest (that would be from 6 on); by 0 its two bytes hold one.
    due(Edges.with("nest a at peek 0 to size-1;", 2, 6, 7).make(0, 0, 1), 1);
    due(Edges.with("nest a at peek 0 to size-1;", 2, 6, 7).make(0, 0, 2), 0);
    due(Edges.with("nest a at peek 0 to size-1;", 2, 6, 7).make(0, 0, 3), -1);
  }

  static void p29_byWhatItHangsOn() {
    due(Edges.with("num a at 0 to 1;num b at a to a+1;", 1, 2, 3).make(0, 1, 3), 2);
    due(Edges.with("num a at 0 to 1;num b at a to a+1;", 1, 2, 3).make(0, 1, 9), 256 + 9);
  }

  static void p29_aByteThatWasTriedIsAsItWas() {
    ByteIntervals x = Edges.with("sum a at 3 of 0 to 3;", 1, 2, 3, 0);
    due(x.make(0, 0, 6), 768 + 1);
    due(x.is(3), 6);
    due(x.about(2), 4);
    due(Edges.with("num a at 0 to 3;", 1, 2, 3).make(0, 0, 65536 + 512 + 4), 512 + 4);
  }

  static void p29_valuesAre0To16777215() {
    ByteIntervals x = Edges.with("num a at 0 to 3;", 255, 255, 254);
    due(x.make(0, 0, 16777215), 512 + 255);
    due(x.make(0, 0, 16777216), -1);
    due(x.make(0, 0, -1), -1);
    due(x.make(0, 0, MAX), -1);
    due(x.make(0, 0, MIN), -1);
    due(Edges.with("num a at 0 to 1;", 9).make(0, 0, 0), 0);
    // Of a BROKEN one the value is NONE: that can't be asked for.
    due(Edges.with("num a at 5 to 6;", 9).make(0, 0, -1), -1);
  }

  static void p29_theHighestSumIs255() {
    due(Edges.with("sum a at 0 of 1 to 3;", 0, 1, 2).make(0, 0, 255), 256 + 253);
    due(Edges.with("sum a at 0 of 1 to 3;", 0, 1, 2).make(0, 0, 256), -1);
    due(Edges.with("sum a at 0 of 1 to 3;", 0, 1, 2).make(0, 0, 0), 256 + 254);
  }

  static void p29_theHighestNestIs9() {
    // Eight nests, each of none where the first byte of an interval is 1 (else BROKEN); a is all behind it.
    StringBuilder all = new StringBuilder("nest a at 1 to size;");
    for (int f = 1; f < 8; f++) all.append("nest ").append((char) ('a' + f)).append(" at peek 0 to 1;");
    ByteIntervals x = Edges.with(all.toString(), 9, 9, 9);
    due(x.make(0, 0, 9), 256);
    due(x.make(0, 0, 10), -1);
    due(x.make(0, 0, 8), -1);
    due(x.make(0, 0, 2), 0);
  }

  static void p29_nestsInANestHangOnOthers() {
    // In a both nests count, whatever they hang on.
    ByteIntervals x = Edges.with("num e at 0 to 1;num f at 1 to 2;nest a at 0 to size-1;nest b at e to e;nest c at f to f;", 9, 9, 9, 9, 9);
    // Of four bytes, all 9: a alone is in it.
    due(x.field(0, 0, 0), 2);
    due(x.make(0, 0, 3), 0);
    due(x.make(0, 0, 4), -1);
    x.set(0, 1);
    due(x.make(0, 0, 4), 256);
    due(x.make(0, 0, 3), 0);
  }

  static void p29_whatIsAskedBehindItIsAsAheadOfIt() {
    ByteIntervals x = Edges.with("sum a at 0 of 1 to 3;nest b at 1 to size;must peek 0=9;", 1, 2, 3, 4);
    long needs = x.needs(0, 0), nested = x.needs(0, 1);
    due(needs, bits(0, 1, 2));
    x.make(0, 0, 77);
    x.make(0, 1, 77);
    due(x.needs(0, 0), needs);
    due(x.needs(0, 1), nested);
    due(x.field(0, 0, 3), WRONG);
  }

  static void p29_othersAreNone() {
    ByteIntervals x = Edges.with("num a at 0 to 1;", 1);
    due(x.make(0, 1, 0), -1);
    due(x.make(0, 8, 0), -1);
    due(x.make(0, -1, 0), -1);
    due(x.make(1, 0, 0), -1);
    due(x.make(-1, 0, 0), -1);
    due(x.make(MAX, MAX, MAX), -1);
    due(x.make(MIN, MIN, MIN), -1);
  }

  // ---- Promise 30: alike ----

  private static int alike(String one, String other, int... bytes) {
    ByteIntervals x = Edges.with(one, bytes);
    Edges.read(x, other);
    due(x.alike(1, 0), x.alike(0, 1));
    return x.alike(0, 1);
  }

  static void p30_toldInBoth() {
    due(alike("num a at 0 to 1;num b at 0 to 1;", "num b at 0 to 1;num c at 0 to 1;", 5), 2);
    due(alike("num a at 0 to 1;", "", 5), 0);
    due(alike("", "", 5), 0);
    // One that is not told is not 0.
    due(alike("num a at 0 to 0;", "num b at 0 to 0;", 5), 0);
  }

  static void p30_likeValues() {
    due(alike("num a at 0 to 1;", "num a at 1 to 2;", 5, 6), 0);
    due(alike("num a at 0 to 1;", "num a at 1 to 2;", 5, 5), 1);
  }

  static void p30_howTheyAre() {
    // Of value 5 both; the sum is WRONG, and then RIGHT.
    due(alike("num a at 1 to 2;", "sum a at 0 of 1 to 2;", 6, 5), 0);
    due(alike("num a at 1 to 2;", "sum a at 0 of 1 to 2;", 5, 5), 1);
    due(alike("sum a at 0 of 1 to 2;", "sum a at 2 of 1 to 2;", 6, 5, 6), 1);
  }

  static void p30_brokenInBothIsAlike() {
    due(alike("num a at 5 to 6;", "num a at 7 to 8;", 5), 1);
    due(alike("num a at 5 to 6;", "num a at a to 8;", 5), 1);
    due(alike("num a at 5 to 6;", "num a at 0 to 1;", 5), 0);
  }

  static void p30_itself() {
    ByteIntervals x = Edges.with("num a at 0 to 1;sum b at 0 of 1 to 2;nest c at 1 to 2;num h at 9 to 9;", 5, 6);
    due(x.alike(0, 0), 1 + 2 + 4 + 128);
  }

  static void p30_othersAreNone() {
    ByteIntervals x = Edges.with("num a at 0 to 1;", 5);
    due(x.alike(0, 1), -1);
    due(x.alike(1, 0), -1);
    due(x.alike(0, -1), -1);
    due(x.alike(-1, 0), -1);
    due(x.alike(MAX, MIN), -1);
  }

  // ---- Promise 31: must ----

  static void p31_theFirstClauseAmongAll() {
    due(Edges.with("must 1=2;must 1=2;").must(0), 0);
    due(Edges.with("size 3;num a at 0 to 0;must 1=1;must 1=2;must 1=2;").must(0), 3);
    due(Edges.with("must 1=1;".repeat(23) + "must 1=2;").must(0), 23);
    due(Edges.with("must 1=1;".repeat(24)).must(0), -1);
  }

  static void p31_othersAreNone() {
    ByteIntervals x = Edges.with("must 1=2;");
    due(x.must(1), -1);
    due(x.must(-1), -1);
    due(x.must(MAX), -1);
    due(x.must(MIN), -1);
    due(Edges.with("").must(0), -1);
  }

  static void p31_namingABrokenOneItIsNot() {
    due(Edges.with("num a at 5 to 6;must a=a;", 1).must(0), 1);
    due(Edges.with("num a at 5 to 6;must not a=a;", 1).must(0), 1);
    due(Edges.with("num a at 5 to 6;must 1=1 or a=1;", 1).must(0), 1);
    due(Edges.with("must if 1=1 then 1 else a end=1;num a at a to 6;", 1).must(0), 0);
    due(Edges.with("num a at 5 to 6;must 1=1;", 1).must(0), -1);
  }

  static void p31_namingAWrongOneItMayBe() {
    due(Edges.with("sum a at 0 of 1 to 2;must a=6;", 5, 6).must(0), -1);
    due(Edges.with("sum a at 0 of 1 to 2;must a=5;", 5, 6).must(0), 1);
  }

  static void p31_oneNotToldIs0() {
    due(Edges.with("must a=0;must h=0;must not b#0;").must(0), -1);
  }

  static void p31_namesOfTheFile() {
    so("size=2 and deep=0 and peek 1=6 and peek 2=0", 5, 6);
    so("size=0 and peek 0=0");
  }

  static void p31_comparisons() {
    so("1<2");
    notSo("2<2");
    notSo("3<2");
    so("1<=2");
    so("2<=2");
    notSo("3<=2");
    notSo("1>2");
    notSo("2>2");
    so("3>2");
    notSo("1>=2");
    so("2>=2");
    so("3>=2");
    notSo("1=2");
    so("2=2");
    so("1#2");
    notSo("2#2");
    so("-1<0");
    so("-2<-1");
    notSo("-1>0");
  }

  static void p31_orOfBothAndOfAsks() {
    so("1=1 or 1=2");
    so("1=2 or 1=1");
    notSo("1=2 or 1=3");
    so("1=1 and 2=2");
    notSo("1=1 and 1=2");
    notSo("1=2 and 1=1");
    so("1=1 or 1=1 and 1=2");
    so("1=2 and 1=2 or 1=1");
    notSo("1=2 and 1=1 or 1=2");
    so("1=2 or 1=2 or 1=1");
    notSo("1=1 and 1=1 and 1=2");
  }

  static void p31_notIsOfTheOneAskBehindIt() {
    notSo("not 1=1");
    so("not 1=2");
    so("not not 1=1");
    so("not 1=1 or 2=2");
    notSo("not 1=2 and 1=2");
    so("not 1=2 and 2=2");
    so("2=2 and not 1=2");
    so("not 1=2 and not 1=3");
    notSo("not 1=1 and 2=2");
  }

  static void p31_cutsTowards0() {
    so("7/2=3");
    so("-7/2=-3");
    so("7/-2=-3");
    so("-7/-2=3");
    so("1/2=0");
    so("-1/2=0");
    so("8/2=4");
    so("-8/2=-4");
  }

  static void p31_by0ItIs0() {
    so("7/0=0");
    so("-7/0=0");
    so("0/0=0");
    so("7/(3-3)=0");
    so("7/peek 9=0", 1);
    so("0/7=0");
  }

  static void p31_fromTheLeft() {
    so("8-3-2=3");
    so("8-3+2=7");
    so("100/10/5=2");
    so("7/2*2=6");
    so("2*7/2=7");
    so("2+3*4=14");
    so("3*4+2=14");
    so("20-6/2=17");
    so("(8-3)-(3-2)=4");
    so("-2*3+7=1");
    so("-2+3=1");
    so("--3=3");
    so("2--3=5");
    so("peek 0+1=6", 5, 9);
    so("peek (0+1)=9", 5, 9);
    so("-peek 0=-5", 5, 9);
    so("peek -0=5", 5, 9);
    so("-(2+3)=0-5");
  }

  static void p31_aMillionIsTheMost() {
    // a is 999999, a million itself and one more.
    ofA("a+1=1000*1000", 999999);
    ofA("a+1-1=a", 999999);
    ofA("a+2=1000*1000", 999999);
    ofA("a+2-1=a", 999999);
    ofA("a+0=a", 1000000);
    ofA("a=1000*1000", 1000000);
    ofA("a#1000*1000", 1000001);
    ofA("a+0#a", 1000001);
    ofA("a+0=1000*1000", 1000001);
    ofA("0+a=1000*1000", 1000001);
    ofA("a-0=1000*1000", 1000001);
    ofA("a*1=1000*1000", 1000001);
    ofA("a/1=1000*1000", 1000001);
    ofA("a-1=1000*1000", 1000001);
    so("1000*1001=1000*1000");
    so("1000*1000-1=9999*100+99");
  }

  static void p31_belowItIsTheSameLess() {
    ofA("-a-1=-(1000*1000)", 999999);
    ofA("-a-1+1=-a", 999999);
    ofA("-a-2=-(1000*1000)", 999999);
    ofA("-a-2+1=-a", 999999);
    ofA("-a-0=-a", 1000000);
    ofA("-a+0#-a", 1000001);
    ofA("-a+0=-(1000*1000)", 1000001);
    ofA("0-a=-(1000*1000)", 1000001);
    ofA("a*-1=-(1000*1000)", 1000001);
    ofA("a/-1=-(1000*1000)", 1000001);
    ofA("-a/1=-(1000*1000)", 1000001);
    so("1000*-1001=0-1000*1000");
  }

  static void p31_whatIsOfManyDigits() {
    // Beyond what an int holds.
    ofA("a*a=1000*1000", 16777215);
    ofA("a*-a=-(1000*1000)", 16777215);
    ofA("-a*-a=1000*1000", 16777215);
    ofA("a+a=1000*1000", 16777215);
    ofA("-a-a=-(1000*1000)", 16777215);
    ofA("9999*9999*9999*9999=1000*1000", 0);
    // 65536 * 65536 is 0 of an int's bits.
    ofA("a*a=1000*1000", 65536);
  }

  static void p31_aNameAndItsNegativeAreAsTheyAre() {
    ofA("a>1000*1000", 16777215);
    ofA("-a<-(1000*1000)", 16777215);
    ofA("--a=a", 16777215);
    ofA("(a)=a", 16777215);
    ofA("if 1=1 then a else 0 end=a", 16777215);
    ofA("peek 0=255 and peek 1=255", 16777215);
    ofA("a-a=0", 16777215);
    ofA("a/a=1", 16777215);
    // 8388608 / 9 is 932067.
    ofA("a/9=932*1000+67", 8388608);
  }

  static void p31_justTheChosenSumIsAsked() {
    so("if 1=1 then 3 else 4 end=3");
    so("if 1=2 then 3 else 4 end=4");
    so("if 1=1 then if 1=2 then 3 else 4 end else 5 end=4");
    so("if 1=2 then 3 else if 1=2 then 4 else 5 end end=5");
    so("1+if 1=1 then 3 else 4 end*2=7");
    notSo("1+if 1=1 then 3 else 4 end*2=9");
    notSo("1+if 1=2 then 3 else 4 end*2=7");
    notSo("if 1=1 then 3 else 4 end=4");
    so("if 1=1 then 3 else 4 end-if 1=2 then 1 else 2 end=1");
    fieldIs(Edges.with("num a at if 1=1 then 1 else 0 end+1 to if 1=2 then 1 else 2 end+1;", 5, 6, 7), 'a', 7, 2, 3, RIGHT);
    so("if 1=2 or 2=2 and 3=3 then 3+4 else 4 end=7");
  }

  static void p31_eightDeepWithAllThatWaits() {
    // Each level keeps an or, an and, one side of a comparison, a sum and a product waiting.
    String inner = "1";
    for (int i = 0; i < 6; i++) inner = "if 1=2 or 1=1 and 1<1+1*" + inner + " then 1 else 2 end";
    so("1=2 or 1=1 and 1<1+1*" + inner);
    String ones = "1";
    for (int i = 0; i < 8; i++) ones = "(1+1*" + ones + ")";
    so(ones + "=9");
  }

  // ---- Promise 32: deep ----

  static void p32_noneIsRead() {
    due(Edges.with("num a at 0 to 1;", 1).deep(0), 0);
    due(Edges.with("nest a at 0 to size;", 1, 2).deep(0), 0);
    due(Edges.with("nest a at a to size;", 1, 2).deep(0), 0);
    due(Edges.with("", 1).deep(0), 0);
    due(Edges.with("nest a at 0 to 0;").deep(0), 0);
  }

  static void p32_oneIsRead() {
    due(Edges.with("nest a at 1 to size;", 1).deep(0), 1);
    due(Edges.with("nest a at 2 to 4;", 1, 2, 3, 4).deep(0), 1);
    due(Edges.with("nest a at 1+99*deep to size;", 1, 2, 3, 4).deep(0), 1);
  }

  static void p32_twoAreTheMost() {
    due(Edges.with("nest a at 1 to size;", 1, 2).deep(0), 2);
    due(Edges.with("nest a at 1 to size;", 1, 2, 3, 4, 5, 6, 7, 8, 9).deep(0), 2);
  }

  static void p32_theDeepestOfAll() {
    due(Edges.with("nest a at 0 to 0;nest b at 1 to size;", 1, 2, 3).deep(0), 2);
    due(Edges.with("nest a at 1 to size;nest b at 0 to 0;", 1, 2, 3).deep(0), 2);
    due(Edges.with("nest a at 1 to size;nest b at 9 to 9;", 1).deep(0), 1);
  }

  static void p32_asNow() {
    ByteIntervals x = Edges.with("nest a at 1 to size;", 1, 2);
    due(x.deep(0), 2);
    x.size(1);
    due(x.deep(0), 1);
    x.size(0);
    due(x.deep(0), 0);
    Edges.read(x, "");
    x.size(2);
    due(x.deep(0), 2);
    due(x.deep(1), 0);
  }

  static void p32_othersAreNone() {
    ByteIntervals x = Edges.with("nest a at 1 to size;", 1);
    due(x.deep(1), -1);
    due(x.deep(-1), -1);
    due(x.deep(MAX), -1);
    due(x.deep(MIN), -1);
  }

  // ---- Promise 33: kind ----

  static void p33_ofEachKindBrokenOrNot() {
    ByteIntervals x = Edges.with("num a at 50 to 1;sum b at b of 0 to 1;nest c at 0 to size;num h at 0 to 0;");
    due(x.kind(0, 0), 0);
    due(x.kind(0, 1), 1);
    due(x.kind(0, 2), 2);
    due(x.kind(0, 7), 0);
  }

  static void p33_notToldAndOthersAreNone() {
    ByteIntervals x = Edges.with("num a at 0 to b;");
    due(x.kind(0, 1), -1);
    due(x.kind(0, 8), -1);
    due(x.kind(0, -1), -1);
    due(x.kind(1, 0), -1);
    due(x.kind(-1, 0), -1);
    due(x.kind(MAX, 0), -1);
    due(x.kind(0, MAX), -1);
    due(x.kind(MIN, MIN), -1);
  }

  // ---- Promise 38: said ----

  static void p38_eightAreTheMost() {
    ByteIntervals x = new ByteIntervals();
    for (int i = 1; i <= 8; i++) due(x.said(0, 0), i);
    due(x.said(0, 0), -2);
    due(x.about(3), 8);
  }

  static void p38_noneAnyMore() {
    ByteIntervals x = new ByteIntervals();
    due(x.said(-1, 0), 0);
    for (int i = 1; i <= 8; i++) x.said(0, 0);
    due(x.said(-1, 5), 0);
    due(x.about(3), 0);
    due(x.said(3, 3), 1);
  }

  static void p38_fieldsAre0To7() {
    ByteIntervals x = new ByteIntervals();
    due(x.said(8, 0), -2);
    due(x.said(-2, 0), -2);
    due(x.said(MAX, 0), -2);
    due(x.said(MIN, 0), -2);
    due(x.about(3), 0);
    due(x.said(0, 0), 1);
    due(x.said(7, 0), 2);
  }

  static void p38_valuesAre0To16777215() {
    ByteIntervals x = new ByteIntervals();
    due(x.said(0, -1), -2);
    due(x.said(0, 16777216), -2);
    due(x.said(0, MAX), -2);
    due(x.said(0, MIN), -2);
    due(x.about(3), 0);
    due(x.said(0, 0), 1);
    due(x.said(0, 16777215), 2);
  }

  static void p38_whatIsRefusedIsNotSaid() {
    ByteIntervals x = Edges.with("num a at 0 to 1;", 5);
    for (int i = 0; i < 8; i++) x.said(0, 5);
    x.said(0, 6);
    x.said(0, -1);
    due(x.whose(), 1);
  }

  static void p38_itIsNoStep() {
    ByteIntervals x = new ByteIntervals();
    x.said(0, 0);
    due(x.about(2), 0);
  }

  // ---- Promise 39: whose ----

  static void p39_ofNoTextsNone() {
    ByteIntervals x = new ByteIntervals();
    due(x.whose(), 0);
    x.said(0, 0);
    due(x.whose(), 0);
  }

  static void p39_ofNothingSaidAll() {
    ByteIntervals x = new ByteIntervals();
    for (int i = 0; i < 4; i++) {
      Edges.read(x, "num a at 9 to 9;");
      due(x.whose(), (2 << i) - 1);
    }
  }

  static void p39_allOfWhatIsSaid() {
    ByteIntervals x = Edges.with("num a at 0 to 1;num b at 1 to 2;", 5, 6);
    Edges.read(x, "num a at 0 to 1;num b at 0 to 1;");
    Edges.read(x, "num a at 1 to 2;num b at 1 to 2;");
    Edges.read(x, "num b at 1 to 2;num a at 0 to 1;");
    x.said(0, 5);
    due(x.whose(), 1 + 2 + 8);
    x.said(1, 6);
    due(x.whose(), 1 + 8);
    x.said(1, 6);
    due(x.whose(), 1 + 8);
    // It can't have two values.
    x.said(1, 5);
    due(x.whose(), 0);
  }

  static void p39_theEighthCountsToo() {
    ByteIntervals x = Edges.with("num a at 0 to 1;num h at 1 to 2;", 5, 6);
    for (int i = 0; i < 7; i++) x.said(0, 5);
    x.said(7, 6);
    due(x.whose(), 1);
    x.set(1, 7);
    due(x.whose(), 0);
  }

  static void p39_aBrokenOneIsNot() {
    ByteIntervals x = Edges.with("num a at 5 to 6;num b at b to 1;", 0);
    x.said(0, 0);
    due(x.whose(), 0);
    x.said(-1, 0);
    x.said(1, 0);
    due(x.whose(), 0);
  }

  static void p39_aWrongOneMayBe() {
    ByteIntervals x = Edges.with("sum a at 0 of 1 to 2;", 0, 9);
    x.said(0, 9);
    due(x.whose(), 1);
  }

  static void p39_oneNotToldIsNot() {
    ByteIntervals x = Edges.with("num a at 0 to 1;", 0);
    x.said(1, 0);
    due(x.whose(), 0);
  }

  static void p39_asNow() {
    ByteIntervals x = Edges.with("num a at 0 to 3;", 255, 255, 254);
    x.said(0, 16777215);
    due(x.whose(), 0);
    x.set(2, 255);
    due(x.whose(), 1);
    x.undo();
    due(x.whose(), 0);
  }
}
