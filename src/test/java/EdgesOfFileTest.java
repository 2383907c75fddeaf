/** THE FILE, its DAYS, YEARS, STEPS, BOOK and IMAGE: a test for each sentence that names a boundary case. */
public final class EdgesOfFileTest {
  private static final int MAX = Integer.MAX_VALUE;
  private static final int MIN = Integer.MIN_VALUE;

  public static void main(String[] args) throws Exception { Edges.runAll(EdgesOfFileTest.class); }

  private static void due(long got, long want) { Edges.due(got, want); }
  private static void due(boolean got, boolean want) { Edges.due(got, want); }

  /** Nothing was done: neither a STEP nor a line, and all bytes, DAY and X are as they were. */
  private static void still(ByteIntervals x, int steps, int lines, int day, int draws, int size, int bytes) {
    due(x.about(2), steps);
    due(x.book(-1, 0), lines);
    due(x.is(0), day);
    due(x.is(1), draws);
    due(x.is(2), size);
    due(x.is(3), bytes);
  }

  private static void lineIs(ByteIntervals x, int i, int day, int what, int place, int value) {
    due(x.book(i, 0), day);
    due(x.book(i, 1), what);
    due(x.book(i, 2), place);
    due(x.book(i, 3), value);
  }

  // ---- Promise 1: A new object ----

  static void p01_theFileIsEmpty() {
    ByteIntervals x = new ByteIntervals();
    due(x.is(2), 0);
    due(x.is(3), 0);
    for (int p = 0; p < 40; p++) due(x.at(p), 0);
  }

  static void p01_dayIs0AndXIs479() {
    ByteIntervals x = new ByteIntervals();
    due(x.is(0), 0);
    due(x.is(1), 479);
  }

  static void p01_noFormatNoTextRulesNothingIsSaid() {
    ByteIntervals x = new ByteIntervals();
    due(x.about(0), 0);
    due(x.about(1), -1);
    due(x.about(3), 0);
    due(x.valid(0), false);
  }

  static void p01_noStepNoLineNoTape() {
    ByteIntervals x = new ByteIntervals();
    due(x.about(2), 0);
    due(x.book(-1, 0), 0);
    due(x.about(4), 0);
  }

  static void p01_theImageIsThis() {
    ByteIntervals x = Edges.by("mend;", 1, 2, 3);
    x.day(5);
    x.said(0, 0);
    due(x.back(), 0);
    still(x, 0, 0, 0, 479, 0, 0);
    due(x.about(0), 0);
    due(x.about(1), -1);
    due(x.about(3), 0);
  }

  static void p01_noneIsBelow0() {
    due(ByteIntervals.NONE, -1);
  }

  static void p01_objectsShareNothing() {
    ByteIntervals x = Edges.by("mend;", 1, 2, 3);
    ByteIntervals y = new ByteIntervals();
    due(y.is(2), 0);
    due(y.about(0), 0);
    due(y.about(1), -1);
    y.size(9);
    due(x.is(2), 3);
  }

  // ---- Promise 7: set ----

  static void p07_thePlaceAtSizeIsOther() {
    ByteIntervals x = Edges.file(0, 0, 0, 0);
    due(x.set(4, 1), false);
    due(x.at(4), 0);
    due(x.set(3, 1), true);
    due(x.at(3), 1);
  }

  static void p07_aPlaceBelow0IsOther() {
    ByteIntervals x = Edges.file(0, 0);
    due(x.set(-1, 1), false);
    due(x.set(MIN, 1), false);
    due(x.set(0, 1), true);
  }

  static void p07_anEmptyFileHasNoPlace() {
    ByteIntervals x = new ByteIntervals();
    due(x.set(0, 1), false);
    due(x.set(-1, 1), false);
  }

  static void p07_theLastPlaceIs39() {
    ByteIntervals x = new ByteIntervals();
    x.size(40);
    due(x.set(39, 7), true);
    due(x.set(40, 7), false);
    due(x.set(MAX, 7), false);
    due(x.is(3), 7);
  }

  static void p07_bytesAre0To255() {
    ByteIntervals x = Edges.file(3);
    due(x.set(0, 255), true);
    due(x.at(0), 255);
    due(x.set(0, 0), true);
    due(x.at(0), 0);
    due(x.set(0, 256), false);
    due(x.set(0, -1), false);
    due(x.set(0, MAX), false);
    due(x.set(0, MIN), false);
    due(x.at(0), 0);
  }

  static void p07_falseIfItIsSo() {
    ByteIntervals x = Edges.file(0, 255);
    due(x.set(0, 0), false);
    due(x.set(1, 255), false);
  }

  static void p07_aRefusedSetIsNoStepAndNoLine() {
    ByteIntervals x = Edges.file(5, 6);
    int steps = x.about(2);
    x.set(2, 1);
    x.set(-1, 1);
    x.set(0, 256);
    x.set(0, -1);
    x.set(0, 5);
    still(x, steps, steps, 0, 479, 2, 11);
  }

  static void p07_aSetIsAStepAndALine() {
    ByteIntervals x = new ByteIntervals();
    x.size(3);
    x.set(2, 9);
    still(x, 2, 2, 0, 479, 3, 9);
    lineIs(x, 1, 0, 0, 2, 9);
  }

  // ---- Promise 8: size ----

  static void p08_sizeIs0To40() {
    ByteIntervals x = new ByteIntervals();
    due(x.size(40), true);
    due(x.is(2), 40);
    due(x.size(0), true);
    due(x.is(2), 0);
    due(x.size(41), false);
    due(x.size(-1), false);
    due(x.size(MAX), false);
    due(x.size(MIN), false);
    due(x.is(2), 0);
  }

  static void p08_falseIfItIsSo() {
    ByteIntervals x = new ByteIntervals();
    due(x.size(0), false);
    x.size(7);
    due(x.size(7), false);
    x.size(40);
    due(x.size(40), false);
  }

  static void p08_aRefusedSizeIsNoStepAndNoLine() {
    ByteIntervals x = Edges.file(5, 6);
    x.size(2);
    x.size(41);
    x.size(-1);
    still(x, 3, 3, 0, 479, 2, 11);
  }

  static void p08_bytesThatComeAre0() {
    ByteIntervals x = Edges.file(5, 6);
    x.size(40);
    for (int p = 2; p < 40; p++) due(x.at(p), 0);
    due(x.at(0), 5);
    due(x.at(1), 6);
  }

  static void p08_bytesBeyondAreGone() {
    ByteIntervals x = Edges.file(5, 6, 7);
    x.size(1);
    due(x.at(0), 5);
    due(x.at(1), 0);
    due(x.at(2), 0);
    x.size(3);
    due(x.at(1), 0);
    due(x.at(2), 0);
  }

  static void p08_theByteAt39IsGoneToo() {
    ByteIntervals x = new ByteIntervals();
    x.size(40);
    x.set(39, 200);
    x.size(39);
    x.size(40);
    due(x.at(39), 0);
  }

  static void p08_ofSize0AllBytesAreGone() {
    ByteIntervals x = Edges.file(5, 6, 7);
    x.size(0);
    due(x.is(3), 0);
    x.size(3);
    due(x.is(3), 0);
  }

  // ---- Promise 10: day ----

  static void p10_daysAre1To60() {
    ByteIntervals x = new ByteIntervals();
    due(x.day(0), -1);
    due(x.day(61), -1);
    due(x.day(-1), -1);
    due(x.day(MIN), -1);
    due(x.day(MAX), -1);
    still(x, 0, 0, 0, 479, 0, 0);
    due(x.day(1), 0);
    due(x.is(0), 1);
    due(x.day(60), 0);
    due(x.is(0), 61);
  }

  static void p10_beyond9999NothingIsDone() {
    ByteIntervals x = Edges.late(10);
    x.size(1);
    int steps = x.about(2), lines = x.book(-1, 0);
    due(x.day(11), -1);
    due(x.day(60), -1);
    still(x, steps, lines, 9989, 479, 1, 0);
  }

  static void p10_theLastDayIs9999() {
    ByteIntervals x = Edges.late(10);
    due(x.day(10), 0);
    due(x.is(0), 9999);
    due(x.day(1), -1);
    due(x.is(0), 9999);
  }

  static void p10_of9999NoBitRots() {
    ByteIntervals x = Edges.late(0);
    x.size(4);
    due(x.day(1), -1);
    due(x.is(1), 479);
    due(x.is(3), 0);
  }

  static void p10_ofSize0NothingIsDrawn() {
    ByteIntervals x = new ByteIntervals();
    due(x.day(3), 0);
    still(x, 3, 0, 3, 479, 0, 0);
  }

  static void p10_aboveSize0ThreeAreDrawn() {
    ByteIntervals x = new ByteIntervals();
    x.size(1);
    x.day(1);
    due(x.is(1), 18935);
    x.day(1);
    due(x.is(1), Edges.anew(Edges.anew(Edges.anew(18935))));
  }

  static void p10_xStaysBelow31079() {
    // Just below 31079, and such that the next one is near 0.
    for (int s : new int[] {Edges.seed(d -> d > 31000), Edges.seed(d -> Edges.anew(d) < 60)}) {
      ByteIntervals x = new ByteIntervals();
      x.size(1);
      x.years(s, 1);
      int draws = Edges.anew(s * 2 + 479);
      for (int i = 0; i < 3; i++) draws = (int) ((draws * 743L + 607L) % 31079L);
      x.day(1);
      due(x.is(1), draws);
    }
  }

  static void p10_thePlaceIsDrawnBySize() {
    for (int place = 0; place < 5; place++) {
      ByteIntervals x = Edges.file(0, 0, 0, 0, 0);
      Edges.draws(x, place, 4, 0);
      due(x.day(1), 1);
      due(x.at(place), 16);
      due(x.is(3), 16);
    }
  }

  static void p10_ofSize40ThePlaceIs0To39() {
    for (int place = 0; place < 40; place += 39) {
      ByteIntervals x = new ByteIntervals();
      x.size(40);
      int p = place, s = Edges.seed(d -> d % 40 == p && Edges.anew(Edges.anew(d)) % 10 < 3);
      x.years(s, 1);
      due(x.day(1), 1);
      due(x.at(place) > 0, true);
    }
  }

  static void p10_theBitIsDrawnBy8() {
    for (int bit = 0; bit < 8; bit++) {
      ByteIntervals x = Edges.file(0);
      Edges.draws(x, 0, bit, 0);
      due(x.day(1), 1);
      due(x.at(0), 1 << bit);
    }
  }

  static void p10_theBitIsTheOtherOneOf1Too() {
    for (int bit = 0; bit < 8; bit++) {
      ByteIntervals x = Edges.file(255);
      Edges.draws(x, 0, bit, 0);
      due(x.day(1), 1);
      due(x.at(0), 255 - (1 << bit));
    }
  }

  static void p10_withoutRots2RotsAnd3DoesNot() {
    for (int tenth = 0; tenth < 10; tenth++) {
      ByteIntervals x = Edges.file(0, 0);
      Edges.draws(x, 1, 3, tenth);
      due(x.day(1), tenth < 3 ? 1 : 0);
      due(x.at(1), tenth < 3 ? 8 : 0);
    }
  }

  static void p10_aTextWithoutRotsIs3Too() {
    for (int tenth = 2; tenth < 4; tenth++) {
      ByteIntervals x = Edges.by("must 1=1;", 0, 0);
      Edges.draws(x, 1, 3, tenth);
      due(x.day(1), tenth < 3 ? 1 : 0);
    }
  }

  static void p10_aDrawAsHighAsRotsDoesNotRot() {
    for (int rots = 0; rots <= 10; rots++) {
      for (int tenth = Math.max(0, rots - 1); tenth <= Math.min(9, rots); tenth++) {
        ByteIntervals x = Edges.by("rots " + rots + ";", 0);
        Edges.draws(x, 0, 0, tenth);
        due(x.day(1), tenth < rots ? 1 : 0);
      }
    }
  }

  static void p10_rotsIs0AtLeast() {
    ByteIntervals x = Edges.by("rots -1;", 0);
    Edges.draws(x, 0, 0, 0);
    due(x.day(1), 0);
    due(x.day(60), 0);
  }

  static void p10_rotsIs10AtMost() {
    ByteIntervals x = Edges.by("rots 9999;", 0);
    Edges.draws(x, 0, 0, 9);
    due(x.day(1), 1);
    due(x.day(60), 60);
  }

  static void p10_rotsSeesTheDayAheadOfItsBecomingOneMore() {
    ByteIntervals x = Edges.by("rots if day=0 then 10 else 0 end;", 0);
    due(x.day(2), 1);
    lineIs(x, 1, 0, 3, 0, x.at(0));
    due(x.day(1), 0);
  }

  static void p10_rotsSeesThePlaceAndTheByteThere() {
    ByteIntervals x = Edges.by("rots if place=2 and old=7 then 10 else 0 end;", 9, 8, 7);
    Edges.draws(x, 1, 0, 0);
    due(x.day(1), 0);
    Edges.draws(x, 2, 7, 9);
    due(x.day(1), 1);
    due(x.at(2), 135);
    Edges.draws(x, 2, 7, 0);
    due(x.day(1), 0);
  }

  static void p10_rotsPeeksAtTheFileAloneAndSizeIsOfIt() {
    ByteIntervals x = Edges.by("rots if size=2 and peek 1=9 and peek 2=0 and peek -1=0 then 10 else 0 end;", 0, 9);
    due(x.day(1), 1);
    x = Edges.by("rots if size=2 and peek 1=9 and peek 2=0 and peek -1=0 then 10 else 0 end;", 0, 9, 0);
    due(x.day(1), 0);
  }

  static void p10_rotsIsAskedAsAllIsThen() {
    // Only of an even byte a bit rots: behind the first one at bit 0 none does.
    ByteIntervals x = Edges.by("rots if old/2*2=old then 10 else 0 end;", 6);
    Edges.draws(x, 0, 0, 5);
    due(x.day(60), 1);
    due(x.at(0), 7);
  }

  static void p10_noTextRulesAgainBy3() {
    ByteIntervals x = Edges.by("rots 10;", 0);
    x.by(-1);
    Edges.draws(x, 0, 0, 3);
    due(x.day(1), 0);
  }

  static void p10_theAnswerIsHowManyBitsRot() {
    ByteIntervals x = Edges.file(0, 0, 0);
    int rotted = x.day(40);
    due(rotted > 0 && rotted < 20, true);
    due(x.ledger(3), rotted);
  }

  static void p10_aDayWithoutRotIsNoLine() {
    ByteIntervals x = Edges.by("rots 0;", 1);
    x.day(5);
    due(x.book(-1, 0), 2);
  }

  static void p10_eachDayIsAStep() {
    ByteIntervals x = new ByteIntervals();
    x.day(4);
    due(x.about(2), 4);
    x.undo();
    due(x.is(0), 3);
  }

  // ---- Promise 12: years ----

  static void p12_seedsAre0To9999() {
    ByteIntervals x = new ByteIntervals();
    due(x.years(-1, 1), -1);
    due(x.years(10000, 1), -1);
    due(x.years(MAX, 1), -1);
    due(x.years(MIN, 1), -1);
    still(x, 0, 0, 0, 479, 0, 0);
    due(x.years(0, 1), 1);
    due(x.is(1), Edges.anew(479));
    due(x.years(9999, 1), 2);
    due(x.is(1), Edges.anew(20477));
  }

  static void p12_yearsAre1To40() {
    ByteIntervals x = new ByteIntervals();
    due(x.years(5, 0), -1);
    due(x.years(5, 41), -1);
    due(x.years(5, -1), -1);
    due(x.years(5, MAX), -1);
    still(x, 0, 0, 0, 479, 0, 0);
    due(x.years(5, 1) >= 0, true);
    due(x.years(5, 40) >= 0, true);
    due(x.about(2), 2);
  }

  static void p12_ofOneDayXIsAnewOnceMore() {
    // 479 is 5 by 6: of SIZE 1 the DAY draws three behind it.
    ByteIntervals x = Edges.file(0);
    due(x.years(0, 1), 1);
    due(x.is(1), Edges.anew(Edges.anew(Edges.anew(14635))));
  }

  static void p12_thatYearSetsAByte() {
    ByteIntervals x = new ByteIntervals();
    x.size(40);
    int s = Edges.seed(d -> d % 6 == 0 && d % 256 > 0), d = Edges.anew(s * 2 + 479);
    due(x.years(s, 2), 0);
    due(x.at(d / 6 % 40), d % 256);
    due(x.is(3), d % 256);
    lineIs(x, 1, 0, 0, d / 6 % 40, d % 256);
    due(x.is(1), Edges.anew(d));
  }

  static void p12_thePlacesOfThatYearAre0To39() {
    for (int place = 0; place < 40; place += 39) {
      int p = place, s = Edges.seed(d -> d % 6 == 0 && d / 6 % 40 == p && d % 256 > 0);
      ByteIntervals x = new ByteIntervals();
      x.size(40);
      x.years(s, 2);
      due(x.at(place), Edges.anew(s * 2 + 479) % 256);
    }
  }

  static void p12_ofThePlaceAtSizeNothingIsSet() {
    int s = Edges.seed(d -> d % 6 == 0 && d % 256 > 0 && d / 6 % 40 == 5);
    ByteIntervals x = new ByteIntervals();
    x.size(5);
    due(x.years(s, 2), 0);
    due(x.is(3), 0);
    due(x.book(-1, 0), 1);
    due(x.about(2), 2);
    x.size(6);
    due(x.years(s, 2), 0);
    due(x.at(5) > 0, true);
  }

  static void p12_ofAByteThatIsSoNothingIsSet() {
    int s = Edges.seed(d -> d % 6 == 0 && d % 256 == 0);
    ByteIntervals x = new ByteIntervals();
    x.size(40);
    x.years(s, 2);
    due(x.book(-1, 0), 1);
    due(x.about(2), 2);
  }

  static void p12_thatYearIsASizeIfBy4ItIs3() {
    int s = Edges.seed(d -> d % 12 == 7 && d / 6 % 41 > 0), d = Edges.anew(s * 2 + 479);
    ByteIntervals x = new ByteIntervals();
    due(x.years(s, 2), 0);
    due(x.is(2), d / 6 % 41);
    lineIs(x, 0, 0, 1, d / 6 % 41, 0);
  }

  static void p12_by4It1IsNoSize() {
    int s = Edges.seed(d -> d % 12 == 1 && d / 6 % 41 > 0);
    ByteIntervals x = new ByteIntervals();
    x.years(s, 2);
    due(x.is(2), 0);
    due(x.book(-1, 0), 0);
    due(x.about(2), 1);
  }

  static void p12_theSizesOfThatYearAre0To40() {
    ByteIntervals x = new ByteIntervals();
    x.years(Edges.seed(d -> d % 12 == 7 && d / 6 % 41 == 40), 2);
    due(x.is(2), 40);
    x.set(3, 3);
    x.years(Edges.seed(d -> d % 12 == 7 && d / 6 % 41 == 0), 2);
    due(x.is(2), 0);
    due(x.is(3), 0);
  }

  static void p12_ofASizeThatIsSoNothingIsDone() {
    int s = Edges.seed(d -> d % 12 == 7 && d / 6 % 41 == 9);
    ByteIntervals x = new ByteIntervals();
    x.size(9);
    x.years(s, 2);
    due(x.book(-1, 0), 1);
  }

  static void p12_thatYearMendsIfBy4ItIs0() {
    int s = Edges.seed(d -> d % 12 == 8);
    ByteIntervals x = Edges.by("sum a at 0 of 1 to 3;", 0, 7, 8);
    due(x.years(s, 2), 0);
    due(x.at(0), 15);
    lineIs(x, 3, 0, 2, 1, 0);
    x.years(s, 2);
    // Nothing to mend is a line all the same, within the one STEP.
    lineIs(x, 4, 0, 2, 0, 0);
    due(x.about(2), 5);
  }

  static void p12_by4It2IsNothing() {
    int s = Edges.seed(d -> d % 12 == 2);
    ByteIntervals x = Edges.by("sum a at 0 of 1 to 3;", 0, 7, 8);
    x.years(s, 2);
    due(x.at(0), 0);
    due(x.book(-1, 0), 3);
  }

  static void p12_withoutATextNothingIsMended() {
    int s = Edges.seed(d -> d % 12 == 8);
    ByteIntervals x = Edges.with("sum a at 0 of 1 to 3;", 0, 7, 8);
    x.years(s, 2);
    due(x.at(0), 0);
    due(x.book(-1, 0), 3);
  }

  static void p12_whatDoesNotComeToRestIsNotMended() {
    int s = Edges.seed(d -> d % 12 == 8);
    ByteIntervals x = Edges.by("sum a at 0 of 1 to 3;sum b at 1 of 0 to 1;", 0, 0, 1);
    x.years(s, 2);
    due(x.is(3), 1);
    due(x.book(-1, 0), 2);
  }

  static void p12_3And4And5AreADay() {
    for (int kind = 3; kind < 6; kind++) {
      int k = kind, s = Edges.seed(d -> d % 6 == k), d = Edges.anew(s * 2 + 479);
      ByteIntervals x = new ByteIntervals();
      due(x.years(s, 2), 1);
      due(x.is(1), Edges.anew(d));
      x = Edges.by("rots 10;", 0);
      due(x.years(s, 2), 1);
      due(x.ledger(3), 1);
      due(x.is(1), Edges.anew(Edges.anew(Edges.anew(Edges.anew(d)))));
    }
  }

  static void p12_at9999NoDayCanPass() {
    ByteIntervals x = Edges.late(1);
    x.size(1);
    // 479 is a DAY, each of them behind it draws three more; at 9999 it is X anew alone.
    due(x.years(0, 1), 9999);
    due(x.years(0, 1), 9999);
    due(x.is(1), 14635);
    due(x.about(2), 30);
  }

  static void p12_itIsOneStep() {
    ByteIntervals x = Edges.file(1, 2, 3);
    int day = x.years(7, 40);
    due(day > 1, true);
    due(x.about(2), 5);
    due(x.undo(), 4);
    still(x, 4, 4, 0, 479, 3, 6);
  }

  static void p12_nothingDoneIsAStepToo() {
    ByteIntervals x = new ByteIntervals();
    due(x.years(1, 1), 0);
    still(x, 1, 0, 0, Edges.anew(481), 0, 0);
    due(x.undo(), 0);
    due(x.is(1), 479);
  }

  static void p12_theSameSeedIsTheSameYears() {
    ByteIntervals x = Edges.file(1, 2, 3);
    x.years(77, 40);
    int day = x.is(0), draws = x.is(1), sum = x.is(3);
    x.undo();
    x.years(77, 40);
    due(x.is(0), day);
    due(x.is(1), draws);
    due(x.is(3), sum);
  }

  // ---- Promise 13: undo ----

  static void p13_withoutAStepNone() {
    ByteIntervals x = new ByteIntervals();
    due(x.undo(), -1);
    x.size(1);
    due(x.undo(), 0);
    due(x.undo(), -1);
    still(x, 0, 0, 0, 479, 0, 0);
  }

  static void p13_thirtyAreTheMost() {
    ByteIntervals x = new ByteIntervals();
    x.size(1);
    for (int i = 1; i <= 29; i++) x.set(0, i);
    due(x.about(2), 30);
    for (int i = 29; i >= 0; i--) due(x.undo(), i);
    due(x.is(2), 0);
  }

  static void p13_theThirtyFirstDropsTheEldest() {
    ByteIntervals x = new ByteIntervals();
    x.size(1);
    for (int i = 1; i <= 30; i++) x.set(0, i);
    due(x.about(2), 30);
    for (int i = 29; i >= 0; i--) due(x.undo(), i);
    due(x.undo(), -1);
    due(x.is(2), 1);
    due(x.at(0), 0);
  }

  static void p13_theLatestFirst() {
    ByteIntervals x = Edges.file(1, 2);
    x.undo();
    due(x.at(1), 0);
    due(x.at(0), 1);
    x.undo();
    due(x.at(0), 0);
    due(x.is(2), 2);
  }

  static void p13_stepsThatComeBehindOneTakenBack() {
    ByteIntervals x = new ByteIntervals();
    x.size(1);
    for (int i = 1; i <= 44; i++) x.set(0, i);
    for (int i = 0; i < 15; i++) x.undo();
    due(x.about(2), 15);
    due(x.at(0), 29);
    for (int i = 100; i < 120; i++) x.set(0, i);
    due(x.about(2), 30);
    for (int i = 118; i >= 100; i--) {
      x.undo();
      due(x.at(0), i);
    }
    due(x.undo(), 10);
    due(x.at(0), 29);
    for (int i = 9; i >= 0; i--) due(x.undo(), i);
    due(x.at(0), 19);
  }

  static void p13_aSizeOtherIsTakenBackWithItsBytes() {
    ByteIntervals x = Edges.file(5, 6, 7);
    x.size(1);
    x.undo();
    due(x.is(2), 3);
    due(x.at(1), 6);
    due(x.at(2), 7);
  }

  static void p13_mendedIsOneStep() {
    ByteIntervals x = Edges.by("sum a at 0 of 2 to 4;sum b at 1 of 2 to 4;", 0, 0, 7, 8);
    due(x.mend(), 2);
    x.undo();
    due(x.is(3), 15);
    due(x.ledger(2), 0);
  }

  static void p13_aDayIsTakenBackWithXAndItsLine() {
    ByteIntervals x = Edges.by("rots 10;", 0);
    x.day(1);
    due(x.book(-1, 0), 2);
    x.undo();
    still(x, 1, 1, 0, 479, 1, 0);
  }

  static void p13_linesThatFellOutComeAgain() {
    ByteIntervals x = new ByteIntervals();
    x.size(1);
    for (int i = 1; i <= 24; i++) x.set(0, i);
    due(x.book(0, 1), 1);
    x.set(0, 99);
    due(x.book(0, 1), 0);
    x.undo();
    due(x.book(0, 1), 1);
    due(x.book(24, 3), 24);
  }

  static void p13_textsAndSaidAndTheTapeAreAsTheyAre() {
    ByteIntervals x = Edges.file(5);
    Edges.read(x, "mend;");
    x.by(0);
    x.said(0, 0);
    Check.tape(x, "mend;?");
    x.undo();
    due(x.about(0), 1);
    due(x.about(1), 0);
    due(x.about(3), 1);
    due(x.about(4), 6);
    due(x.text(), -1);
    x.undo();
    due(x.fault(1), 5);
  }

  // ---- Promise 14: at ----

  static void p14_beyondSizeIs0() {
    ByteIntervals x = Edges.file(5, 6);
    due(x.at(1), 6);
    due(x.at(2), 0);
    due(x.at(39), 0);
  }

  static void p14_placesAre0To39() {
    ByteIntervals x = new ByteIntervals();
    x.size(40);
    x.set(39, 8);
    x.set(0, 9);
    due(x.at(39), 8);
    due(x.at(0), 9);
    due(x.at(40), -1);
    due(x.at(-1), -1);
    due(x.at(MAX), -1);
    due(x.at(MIN), -1);
  }

  // ---- Promise 15: is ----

  static void p15_othersAreBelow0AndAbove3() {
    ByteIntervals x = Edges.file(5, 6);
    due(x.is(-1), -2);
    due(x.is(4), -2);
    due(x.is(MAX), -2);
    due(x.is(MIN), -2);
  }

  static void p15_allBytesTogether() {
    ByteIntervals x = new ByteIntervals();
    x.size(40);
    for (int p = 0; p < 40; p++) x.set(p, 255);
    due(x.is(3), 10200);
    x.size(39);
    due(x.is(3), 9945);
    x.size(0);
    due(x.is(3), 0);
  }

  // ---- Promise 16: book ----

  static void p16_theLatest25() {
    ByteIntervals x = new ByteIntervals();
    x.size(1);
    for (int i = 1; i <= 24; i++) x.set(0, i);
    due(x.book(-1, 0), 25);
    lineIs(x, 0, 0, 1, 1, 0);
    lineIs(x, 24, 0, 0, 0, 24);
    x.set(0, 200);
    due(x.book(-1, 0), 25);
    for (int i = 0; i < 24; i++) lineIs(x, i, 0, 0, 0, i + 1);
    lineIs(x, 24, 0, 0, 0, 200);
  }

  static void p16_thereIsNoneSuch() {
    ByteIntervals x = new ByteIntervals();
    due(x.book(0, 0), -2);
    x.size(1);
    due(x.book(0, 0), 0);
    due(x.book(1, 0), -2);
    for (int i = 1; i <= 30; i++) x.set(0, i);
    due(x.book(24, 0), 0);
    due(x.book(25, 0), -2);
    due(x.book(MAX, 0), -2);
  }

  static void p16_othersBelowNone() {
    ByteIntervals x = Edges.file(5);
    due(x.book(-2, 0), -2);
    due(x.book(MIN, 0), -2);
  }

  static void p16_whatIs0To3() {
    ByteIntervals x = Edges.file(5);
    due(x.book(0, -1), -2);
    due(x.book(0, 4), -2);
    due(x.book(0, MAX), -2);
    due(x.book(0, MIN), -2);
  }

  static void p16_howManyOfNone() {
    ByteIntervals x = new ByteIntervals();
    due(x.book(-1, 0), 0);
    x.size(1);
    due(x.book(-1, 0), 1);
    due(x.book(-1, 3), 1);
  }

  static void p16_ofSizeThePlaceIsSizeAndTheByte0() {
    ByteIntervals x = Edges.file(5);
    x.size(40);
    lineIs(x, 2, 0, 1, 40, 0);
    x.size(0);
    lineIs(x, 3, 0, 1, 0, 0);
  }

  static void p16_ofSetTheHighest() {
    ByteIntervals x = new ByteIntervals();
    x.size(40);
    x.set(39, 255);
    lineIs(x, 1, 0, 0, 39, 255);
  }

  static void p16_ofMendedThePlaceIsHowMany() {
    ByteIntervals x = Edges.by("sum a at 0 of 2 to 3;sum b at 1 of 2 to 3;", 0, 0, 9);
    x.mend();
    lineIs(x, 2, 0, 2, 2, 0);
    x.mend();
    lineIs(x, 3, 0, 2, 0, 0);
  }

  static void p16_ofRottedTheByteIsThatBehindIt() {
    ByteIntervals x = Edges.by("rots 10;", 0, 255);
    Edges.draws(x, 1, 7, 0);
    x.day(1);
    lineIs(x, 2, 0, 3, 1, 127);
  }

  static void p16_aLineHasTheDayOfThen() {
    ByteIntervals x = Edges.late(0);
    x.size(3);
    due(x.book(0, 0), 9999);
    x = Edges.by("rots 10;", 0);
    x.day(3);
    for (int i = 0; i < 3; i++) due(x.book(1 + i, 0), i);
    x.set(0, x.at(0) == 1 ? 2 : 1);
    due(x.book(4, 0), 3);
  }

  // ---- Promise 17: foretold ----

  static void p17_daysAre1To60() {
    ByteIntervals x = Edges.file(5);
    due(x.foretold(0, 0), -1);
    due(x.foretold(61, 0), -1);
    due(x.foretold(-1, 0), -1);
    due(x.foretold(MAX, 0), -1);
    due(x.foretold(MIN, 0), -1);
    due(x.foretold(1, 0) >= 0, true);
    due(x.foretold(60, 0) >= 0, true);
  }

  static void p17_placesAre0To39() {
    ByteIntervals x = Edges.file(5);
    due(x.foretold(1, -1), -1);
    due(x.foretold(1, 40), -1);
    due(x.foretold(1, MAX), -1);
    due(x.foretold(1, MIN), -1);
    due(x.foretold(1, 39), 0);
    x.size(40);
    x.set(39, 9);
    due(x.foretold(1, 39) >= 0, true);
  }

  static void p17_beyondSizeIs0() {
    ByteIntervals x = Edges.by("rots 10;", 255);
    due(x.foretold(60, 1), 0);
  }

  static void p17_itIsAsItComes() {
    ByteIntervals x = Edges.by("rots 10;", 1, 2, 3);
    int[] told = new int[3];
    for (int p = 0; p < 3; p++) told[p] = x.foretold(60, p);
    x.day(60);
    for (int p = 0; p < 3; p++) due(x.at(p), told[p]);
  }

  static void p17_nothingIsDone() {
    ByteIntervals x = Edges.by("rots 10;", 1, 2, 3);
    x.foretold(60, 0);
    still(x, 4, 4, 0, 479, 3, 6);
  }

  static void p17_thoseThatCanPass() {
    ByteIntervals x = Edges.late(1);
    x.size(1);
    Edges.read(x, "rots 10;");
    x.by(0);
    due(x.foretold(60, 0) > 0, true);
    due(x.foretold(60, 0), x.foretold(1, 0));
    x = Edges.late(0);
    x.size(1);
    Edges.read(x, "rots 10;");
    x.by(0);
    due(x.foretold(1, 0), 0);
    due(x.foretold(60, 0), 0);
  }

  static void p17_byTheTextThatRules() {
    ByteIntervals x = Edges.with("rots 10;", 0);
    Edges.read(x, "rots 0;");
    x.by(1);
    due(x.foretold(60, 0), 0);
    x.by(0);
    due(x.foretold(1, 0) > 0, true);
  }

  static void p17_rotsSeesTheDaysThatPassThere() {
    ByteIntervals x = Edges.by("rots if day=2 then 10 else 0 end;", 0);
    due(x.foretold(2, 0), 0);
    due(x.foretold(3, 0) > 0, true);
    due(x.foretold(60, 0), x.foretold(3, 0));
  }

  // ---- Promise 34: number ----

  static void p34_threeBytesAreTheMost() {
    ByteIntervals x = Edges.file(255, 255, 255, 1);
    due(x.number(0, 3), 16777215);
    due(x.number(0, 4), -1);
    due(x.number(1, 4), 255 * 65536 + 255 * 256 + 1);
  }

  static void p34_ofNoneIs0() {
    ByteIntervals x = Edges.file(5, 6);
    due(x.number(0, 0), 0);
    due(x.number(2, 2), 0);
    due(new ByteIntervals().number(0, 0), 0);
  }

  static void p34_toSize() {
    ByteIntervals x = Edges.file(5, 6);
    due(x.number(1, 2), 6);
    due(x.number(1, 3), -1);
    due(x.number(3, 3), -1);
    x.size(40);
    due(x.number(39, 40), 0);
    due(x.number(39, 41), -1);
    due(x.number(40, 40), 0);
  }

  static void p34_from0To() {
    ByteIntervals x = Edges.file(5, 6);
    due(x.number(-1, 1), -1);
    due(x.number(2, 1), -1);
    due(x.number(1, 1), 0);
    due(x.number(MIN, MIN), -1);
    due(x.number(MIN, 2), -1);
    due(x.number(MIN, MAX), -1);
    due(x.number(0, MAX), -1);
    due(x.number(MAX, MAX), -1);
    due(x.number(0, MIN), -1);
  }

  // ---- Promise 35: sum ----

  static void p35_ofNoneIs0() {
    ByteIntervals x = Edges.file(5, 6);
    due(x.sum(0, 0), 0);
    due(x.sum(2, 2), 0);
    due(new ByteIntervals().sum(0, 0), 0);
  }

  static void p35_itIsNotMod256() {
    ByteIntervals x = Edges.file(255, 255, 255, 255);
    due(x.sum(0, 4), 1020);
    due(x.sum(1, 3), 510);
  }

  static void p35_toSize() {
    ByteIntervals x = Edges.file(5, 6);
    due(x.sum(0, 2), 11);
    due(x.sum(0, 3), -1);
    due(x.sum(3, 3), -1);
    x.size(40);
    due(x.sum(0, 40), 11);
    due(x.sum(0, 41), -1);
  }

  static void p35_from0To() {
    ByteIntervals x = Edges.file(5, 6);
    due(x.sum(-1, 1), -1);
    due(x.sum(2, 1), -1);
    due(x.sum(1, 2), 6);
    due(x.sum(MIN, MAX), -1);
    due(x.sum(MIN, 1), -1);
    due(x.sum(0, MAX), -1);
    due(x.sum(1, MIN), -1);
  }

  // ---- Promise 36: find ----

  static void p36_fromThePlaceItself() {
    ByteIntervals x = Edges.file(5, 6, 5);
    due(x.find(5, 0), 0);
    due(x.find(5, 1), 2);
    due(x.find(5, 2), 2);
    due(x.find(6, 2), -1);
  }

  static void p36_from0ToSize() {
    ByteIntervals x = Edges.file(5, 6, 5);
    due(x.find(5, 3), -1);
    due(x.find(0, 3), -1);
    due(x.find(0, 4), -1);
    due(x.find(5, -1), -1);
    due(x.find(5, MIN), -1);
    due(x.find(5, MAX), -1);
    x.size(40);
    x.set(39, 77);
    due(x.find(77, 0), 39);
    due(x.find(77, 39), 39);
    due(x.find(77, 40), -1);
  }

  static void p36_bytesAre0To255() {
    ByteIntervals x = Edges.file(0, 255);
    due(x.find(0, 0), 0);
    due(x.find(255, 0), 1);
    due(x.find(256, 0), -1);
    due(x.find(-1, 0), -1);
    due(x.find(MAX, 0), -1);
  }

  static void p36_beyondSizeThereAreNone() {
    due(Edges.file(5, 6).find(0, 0), -1);
    due(new ByteIntervals().find(0, 0), -1);
  }

  // ---- Promise 37: run ----

  static void p37_ofSize0Is0() {
    due(new ByteIntervals().run(), 0);
  }

  static void p37_ofOneByteIs1() {
    due(Edges.file(0).run(), 1);
    due(Edges.file(9).run(), 1);
    due(Edges.file(1, 2, 1, 2).run(), 1);
  }

  static void p37_bytesBeyondSizeAreNone() {
    due(Edges.file(1, 0).run(), 1);
  }

  static void p37_atTheBeginningAndTheEnd() {
    due(Edges.file(4, 4, 4, 1, 1).run(), 3);
    due(Edges.file(1, 1, 4, 4, 4).run(), 3);
    due(Edges.file(1, 4, 4, 4, 1, 4).run(), 3);
  }

  static void p37_ofAFullFile() {
    ByteIntervals x = new ByteIntervals();
    x.size(40);
    due(x.run(), 40);
    x.set(0, 1);
    due(x.run(), 39);
    x.set(39, 1);
    due(x.run(), 38);
    x.set(20, 1);
    due(x.run(), 19);
  }

  // ---- Promise 40: ledger ----

  static void p40_kindsAre0To3() {
    ByteIntervals x = Edges.file(5);
    due(x.ledger(-1), -2);
    due(x.ledger(4), -2);
    due(x.ledger(MAX), -2);
    due(x.ledger(MIN), -2);
  }

  static void p40_eachOfItsKind() {
    ByteIntervals x = Edges.by("rots 10;sum a at 0 of 1 to 3;", 0, 0, 0);
    for (int i = 0; i < 4; i++) due(x.ledger(i), i == 1 ? 1 : 0);
    x.set(1, 1);
    x.set(2, 2);
    x.set(2, 3);
    x.mend();
    x.mend();
    x.day(4);
    int[] want = {3, 1, 2, 4};
    for (int i = 0; i < 4; i++) due(x.ledger(i), want[i]);
  }

  static void p40_ofTheLatest25Alone() {
    ByteIntervals x = new ByteIntervals();
    for (int i = 1; i <= 20; i++) x.size(i);
    for (int i = 1; i <= 4; i++) x.set(0, i);
    due(x.ledger(1), 20);
    due(x.ledger(0), 4);
    for (int i = 11; i <= 14; i++) x.set(0, i);
    due(x.ledger(1), 17);
    due(x.ledger(0), 8);
  }

  // ---- Promise 41: image, promise 42: back ----

  static void p41_theAnswerIsDay() {
    ByteIntervals x = new ByteIntervals();
    due(x.image(), 0);
    x.day(7);
    due(x.image(), 7);
  }

  static void p41_itChangesNothing() {
    ByteIntervals x = Edges.file(5, 6);
    x.image();
    still(x, 3, 3, 0, 479, 2, 11);
  }

  static void p41_aLaterImageIsTheImage() {
    ByteIntervals x = new ByteIntervals();
    x.size(3);
    x.image();
    x.size(5);
    x.image();
    x.size(7);
    x.back();
    due(x.is(2), 5);
    due(x.about(2), 2);
  }

  static void p41_whatComesLaterIsNotInIt() {
    ByteIntervals x = Edges.file(5, 6);
    x.image();
    x.set(0, 99);
    x.undo();
    x.set(1, 98);
    x.back();
    due(x.is(3), 11);
    due(x.undo(), 2);
    due(x.at(1), 0);
    due(x.undo(), 1);
    due(x.at(0), 0);
  }

  static void p42_theAnswerIsDayAndTheImageStays() {
    ByteIntervals x = new ByteIntervals();
    x.day(7);
    x.image();
    x.day(9);
    due(x.back(), 7);
    x.day(20);
    due(x.back(), 7);
    due(x.is(0), 7);
  }

  static void p42_allOfTheFileIsSoAgain() {
    ByteIntervals x = Edges.by("rots 10;", 5, 6);
    x.day(3);
    int steps = x.about(2), lines = x.book(-1, 0), draws = x.is(1), sum = x.is(3);
    x.image();
    x.day(20);
    x.size(40);
    x.back();
    still(x, steps, lines, 3, draws, 2, sum);
    due(x.ledger(3), 3);
  }

  static void p42_allThirtyStepsAreThereAgain() {
    ByteIntervals x = new ByteIntervals();
    x.size(1);
    for (int i = 1; i <= 40; i++) x.set(0, i);
    x.image();
    for (int i = 101; i <= 147; i++) x.set(0, i);
    x.back();
    due(x.at(0), 40);
    for (int i = 29; i >= 0; i--) {
      due(x.undo(), i);
      due(x.at(0), 10 + i);
    }
    due(x.undo(), -1);
  }

  static void p42_noStepsAreNoSteps() {
    ByteIntervals x = new ByteIntervals();
    x.image();
    for (int i = 1; i <= 33; i++) x.size(i);
    x.back();
    due(x.undo(), -1);
  }

  static void p42_laterTextsAreGoneAndTheirNumbersAreGivenAnew() {
    ByteIntervals x = Edges.with("size 1;");
    x.image();
    Edges.read(x, "size 2;");
    Edges.read(x, "size 3;");
    x.by(2);
    x.back();
    due(x.about(0), 1);
    due(x.about(1), -1);
    due(x.played(1), -2);
    due(Edges.read(x, "size 4;"), 1);
    x.played(1);
    due(x.is(2), 4);
    x.played(0);
    due(x.is(2), 1);
  }

  static void p42_fourTextsAreThereAgain() {
    ByteIntervals x = Edges.with("size 1;");
    for (int i = 2; i <= 4; i++) Edges.read(x, "size " + i + ";");
    x.by(3);
    x.image();
    x.by(-1);
    x.back();
    due(x.about(0), 4);
    due(x.about(1), 3);
    Check.tape(x, "size 9;");
    due(x.text(), -1);
    due(x.about(4), 7);
  }

  static void p42_theTextAndSaidAreSoAgain() {
    ByteIntervals x = Edges.by("num a at 0 to 1;", 5, 6);
    x.said(0, 5);
    x.image();
    x.by(-1);
    x.said(-1, 0);
    x.said(0, 9);
    x.said(1, 9);
    x.back();
    due(x.about(1), 0);
    due(x.about(3), 1);
    due(x.whose(), 1);
    due(x.said(0, 6), 2);
    due(x.whose(), 0);
  }

  static void p42_whatIsSaidOfOtherFieldsIsGone() {
    ByteIntervals x = Edges.with("num a at 0 to 1;num b at 1 to 2;", 5, 6);
    x.said(0, 5);
    x.said(1, 6);
    x.image();
    x.said(-1, 0);
    x.said(1, 5);
    x.said(0, 6);
    due(x.whose(), 0);
    x.back();
    due(x.whose(), 1);
    x.said(-1, 0);
    x.said(1, 6);
    x.said(0, 5);
    due(x.whose(), 1);
  }

  static void p42_noneSaidIsNoneSaidAgain() {
    ByteIntervals x = Edges.with("num a at 0 to 1;", 5);
    for (int i = 0; i < 8; i++) x.said(0, 9);
    x.back();
    due(x.about(3), 0);
  }

  static void p42_notTheTape() {
    ByteIntervals x = new ByteIntervals();
    Check.tape(x, "mend;");
    x.image();
    Check.tape(x, "size 5;");
    x.back();
    due(x.about(4), 7);
    due(x.text(), 0);
    x.played(0);
    due(x.is(2), 5);
  }

  static void p42_notTheLatestFault() {
    ByteIntervals x = new ByteIntervals();
    x.image();
    Check.text(x, "size 41;");
    x.back();
    due(x.fault(0), 2);
    due(x.fault(1), 5);
  }

  // ---- Promise 43: about ----

  static void p43_othersAreBelow0AndAbove4() {
    ByteIntervals x = new ByteIntervals();
    due(x.about(-1), -2);
    due(x.about(5), -2);
    due(x.about(MAX), -2);
    due(x.about(MIN), -2);
  }

  static void p43_theMostOfEach() {
    ByteIntervals x = new ByteIntervals();
    for (int i = 0; i < 4; i++) Edges.read(x, "mend;");
    due(x.about(0), 4);
    x.by(3);
    due(x.about(1), 3);
    x.day(60);
    due(x.about(2), 30);
    for (int i = 0; i < 9; i++) x.said(7, 0);
    due(x.about(3), 8);
    for (int i = 0; i < 16; i++) x.feed(0, 0, 0, 0, 0);
    due(x.about(4), 300);
  }
}
