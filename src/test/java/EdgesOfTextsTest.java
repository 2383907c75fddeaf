/** The tape, TEXTS with their FAULTS, and what is PLAYED: a test for each sentence that names a boundary case. */
public final class EdgesOfTextsTest {
  private static final int MAX = Integer.MAX_VALUE;
  private static final int MIN = Integer.MIN_VALUE;

  public static void main(String[] args) throws Exception { Edges.runAll(EdgesOfTextsTest.class); }

  private static void due(long got, long want) { Edges.due(got, want); }
  private static void due(boolean got, boolean want) { Edges.due(got, want); }

  /** A text with a FAULT at a place. */
  private static void faulty(String text, int fault, int place) {
    ByteIntervals x = new ByteIntervals();
    due(Check.text(x, text), -1);
    due(x.fault(0), fault);
    due(x.fault(1), place);
  }

  /** Likewise at its end. */
  private static void ends(String text) { faulty(text, 1, text.length()); }

  private static void fine(String text) {
    ByteIntervals x = new ByteIntervals();
    due(Check.text(x, text), 0);
    due(x.fault(0), 0);
    due(x.fault(1), -1);
  }

  /** A SUM where it can stand (in a num) has a FAULT, told from its own first byte on. */
  private static void sumFaulty(String sum, int fault, int place) { faulty("num a at " + sum + " to 1;", fault, 9 + place); }
  private static void sumFine(String sum) { fine("num a at " + sum + " to 1;"); }
  private static void lawFaulty(String sum, int fault, int place) { faulty("rots " + sum + ";", fault, 5 + place); }
  private static void lawFine(String sum) { fine("rots " + sum + ";"); }
  private static void askFaulty(String either, int fault, int place) { faulty("must " + either + ";", fault, 5 + place); }
  private static void askFine(String either) { fine("must " + either + ";"); }

  private static void feed(ByteIntervals x, int times) {
    for (int i = 0; i < times; i++) x.feed(0, 0, 0, 0, 0);
  }

  // ---- Promise 2: feed ----

  static void p02_theAnswerIsHowManyTheTapeHas() {
    ByteIntervals x = new ByteIntervals();
    due(x.feed(0, 0, 0, 0, 0), 20);
    due(x.feed(-1, MIN, MAX, 1, 0), 40);
    due(x.about(4), 40);
  }

  static void p02_exactly300Come() {
    ByteIntervals x = new ByteIntervals();
    feed(x, 14);
    due(x.about(4), 280);
    due(x.feed(0, 0, 0, 0, 0), 300);
  }

  static void p02_above300NoneCome() {
    ByteIntervals x = new ByteIntervals();
    feed(x, 15);
    due(x.feed(0, 0, 0, 0, 0), -1);
    due(x.about(4), 300);
    x.end(281);
    due(x.feed(0, 0, 0, 0, 0), -1);
    due(x.about(4), 281);
    x.end(280);
    due(x.feed(0, 0, 0, 0, 0), 300);
  }

  static void p02_whatIsRefusedOverwritesNothing() {
    ByteIntervals x = new ByteIntervals();
    String t = "size 7;" + " ".repeat(293);
    Check.tape(x, t);
    due(x.feed(0x21212121, 0x21212121, 0x21212121, 0x21212121, 0x21212121), -1);
    due(x.text(), 0);
  }

  static void p02_theHighestByteOfTheFirstComesFirst() {
    ByteIntervals x = new ByteIntervals();
    // s i z e, blank 1 2 ;, m e n d, ; blanks, blanks.
    x.feed(0x73697a65, 0x2031323b, 0x6d656e64, 0x3b202020, 0x20202020);
    due(x.text(), 0);
    due(x.played(0), 1);
    due(x.is(2), 12);
  }

  static void p02_bytesAbove127ComeToo() {
    ByteIntervals x = new ByteIntervals();
    x.feed(0x2020ff20, 0x80808080, -1, MIN, 0);
    due(x.text(), -1);
    due(x.fault(1), 2);
  }

  // ---- Promise 3: end ----

  static void p03_from0ToHowManyItHas() {
    ByteIntervals x = new ByteIntervals();
    due(x.end(0), 0);
    due(x.end(1), -1);
    feed(x, 1);
    due(x.end(21), -1);
    due(x.end(MAX), -1);
    due(x.end(20), 20);
    due(x.end(19), 19);
    due(x.end(20), -1);
    due(x.end(0), 0);
    due(x.about(4), 0);
  }

  static void p03_below0NothingIsDone() {
    ByteIntervals x = new ByteIntervals();
    feed(x, 1);
    due(x.end(-1), -1);
    due(x.end(MIN), -1);
    due(x.about(4), 20);
  }

  static void p03_ofAFullTape() {
    ByteIntervals x = new ByteIntervals();
    feed(x, 15);
    due(x.end(301), -1);
    due(x.end(300), 300);
    due(x.about(4), 300);
  }

  static void p03_theFirstBytesAlone() {
    ByteIntervals x = new ByteIntervals();
    Check.tape(x, "size 123456789");
    x.end(6);
    x.feed(0x303b2020, 0x20202020, 0x20202020, 0x20202020, 0x20202020);
    due(x.text(), 0);
    x.played(0);
    due(x.is(2), 10);
  }

  // ---- Promise 4: text ----

  static void p04_numbersAre0To3() {
    ByteIntervals x = new ByteIntervals();
    for (int i = 0; i < 4; i++) due(Check.text(x, "mend;"), i);
  }

  static void p04_ofFourThereTheTapeStays() {
    ByteIntervals x = new ByteIntervals();
    for (int i = 0; i < 4; i++) Check.text(x, "mend;");
    Check.tape(x, "size 3;");
    due(x.text(), -1);
    due(x.about(4), 7);
    due(x.about(0), 4);
    due(x.text(), -1);
    // With place again, the tape is read as it stayed.
    x.back();
    due(x.text(), 0);
    x.played(0);
    due(x.is(2), 3);
  }

  static void p04_ofFourThereNoneIsRead() {
    ByteIntervals x = new ByteIntervals();
    for (int i = 0; i < 4; i++) Check.text(x, "mend;");
    Check.tape(x, "mend;?");
    due(x.text(), -1);
    due(x.about(4), 6);
    due(x.fault(0), 0);
    due(x.fault(1), -1);
  }

  static void p04_theTapeIsEmptyThen() {
    ByteIntervals x = new ByteIntervals();
    Check.text(x, "mend;");
    due(x.about(4), 0);
    due(x.end(1), -1);
  }

  static void p04_ofAFaultTheTapeIsEmptyToo() {
    ByteIntervals x = new ByteIntervals();
    due(Check.text(x, "mend;?"), -1);
    due(x.about(4), 0);
    due(x.about(0), 0);
  }

  static void p04_aTextWithAFaultTakesNoNumber() {
    ByteIntervals x = new ByteIntervals();
    due(Check.text(x, "size 3;"), 0);
    due(Check.text(x, "size 4;mend;?"), -1);
    due(x.about(0), 1);
    due(x.played(1), -2);
    due(Check.text(x, "size 5;"), 1);
    x.played(1);
    due(x.is(2), 5);
    x.played(0);
    due(x.is(2), 3);
  }

  static void p04_nothingOfAFaultyTextIsLeft() {
    ByteIntervals x = Edges.file(5, 6, 7);
    Check.text(x, "num a at 0 to 1;sum b at 0 of 0 to 1;nest c at 1 to 2;rots 10;must 1=2;num d at a to b;?");
    due(Check.text(x, "num b at 1 to 2;"), 0);
    due(x.kind(0, 0), -1);
    due(x.kind(0, 1), 0);
    due(x.kind(0, 2), -1);
    due(x.must(0), -1);
    due(x.order(0, 1), -1);
    x.by(0);
    due(x.mend(), -1);
    Edges.draws(x, 0, 0, 3);
    due(x.day(1), 0);
  }

  static void p04_nothingOfATextThatIsGoneIsLeft() {
    ByteIntervals x = Edges.file(5, 6, 7);
    Edges.read(x, "sum a at 0 of peek 1 to 9*deep;nest b at 1 to c;num c at 0 to 1;rots 10;must 1=2;set 0 to 1;");
    x.back();
    x.size(3);
    x.set(0, 1);
    due(Check.text(x, "nest a at 1 to size;num b at b to 1;must 1=1;"), 0);
    x.by(0);
    due(x.mend(), -1);
    due(x.sure(0, 0), true);
    due(x.needs(0, 1), 0);
    due(x.kind(0, 2), -1);
    due(x.must(0), -1);
    due(x.played(0), -1);
    due(x.ring(0), 2);
    due(x.order(0, 0), 0);
    due(x.order(0, 1), -1);
    Edges.draws(x, 0, 0, 3);
    due(x.day(1), 0);
  }

  static void p04_noFieldOfATextThatIsGoneIsLeft() {
    ByteIntervals x = new ByteIntervals();
    Edges.read(x, "num a at 0 to b;num b at 0 to 1;sum c at 0 of 0 to 1;");
    x.back();
    x.size(3);
    due(Check.text(x, "rots 1;"), 0);
    for (int f = 0; f < 8; f++) {
      due(x.order(0, f), -1);
      due(x.kind(0, f), -1);
      due(x.field(0, f, 3), 3);
    }
    due(x.ring(0), 0);
    due(x.loose(0), 7);
    // a is in RING now: what it hung on is not looked at.
    x.back();
    x.size(3);
    due(Check.text(x, "num a at a to b;num b at 0 to 1;"), 0);
    due(x.needs(0, 0), 0);
    due(x.needs(0, 1), 1);
  }

  static void p04_fourTextsOfThreeHundredBytes() {
    ByteIntervals x = Edges.file(9, 8);
    for (int i = 0; i < 4; i++) due(Check.text(x, "num a at " + "1-1+".repeat(70) + i + "-" + i + " to 1;"), i);
    for (int i = 0; i < 4; i++) due(x.field(i, 0, 0), 9);
  }

  static void p04_noBytesAreAText() {
    ByteIntervals x = new ByteIntervals();
    due(x.text(), 0);
    due(x.fault(0), 0);
    due(x.valid(0), true);
    fine("");
    fine(" ");
    fine("\n\n \n");
  }

  static void p04_threeHundredBytesAreAText() {
    fine("mend;" + " ".repeat(295));
    fine(" ".repeat(295) + "mend;");
    fine("rots " + "1+".repeat(146) + "1 ;");
    fine("rots" + " ".repeat(294) + "1;");
    ends("rots " + "1+".repeat(147) + "1");
  }

  // ---- Promise 5: fault ----

  static void p05_aheadOfAnyNone() {
    ByteIntervals x = new ByteIntervals();
    due(x.fault(0), -1);
    due(x.fault(1), -1);
    x.end(0);
    x.feed(0, 0, 0, 0, 0);
    due(x.fault(0), -1);
  }

  static void p05_othersNone() {
    ByteIntervals x = new ByteIntervals();
    Check.text(x, "day 61;");
    due(x.fault(-1), -1);
    due(x.fault(2), -1);
    due(x.fault(MAX), -1);
    due(x.fault(MIN), -1);
    due(x.fault(0), 2);
    due(x.fault(1), 4);
  }

  static void p05_withoutAFault0AndNoPlace() {
    ByteIntervals x = new ByteIntervals();
    Check.text(x, "?");
    due(x.fault(0), 1);
    due(x.fault(1), 0);
    Check.text(x, "mend;");
    due(x.fault(0), 0);
    due(x.fault(1), -1);
  }

  static void p05_ofTheLatestThatWasRead() {
    ByteIntervals x = new ByteIntervals();
    Check.text(x, "size 41;");
    Check.text(x, " rots a;");
    due(x.fault(0), 5);
    due(x.fault(1), 6);
  }

  // Tokens.

  static void p05_blanksAre32And10Alone() {
    fine("size\n3\n;");
    faulty("size\t3;", 1, 4);
    faulty("size\r3;", 1, 4);
    faulty("size 3;\u0000", 1, 7);
    faulty("size 3;\u001f", 1, 7);
    faulty("size 3;!", 1, 7);
    faulty("size 3;\u00a0", 1, 7);
  }

  static void p05_blanksAreNotNeededWhereTokensEnd() {
    fine("size3;");
    fine("set 0to 1;");
    fine("set 0to1;");
    fine("day1;");
    fine("must(1)<(2);");
    fine("num a at0to1;");
    sumFine("if 1=1then(2)else(3)end");
    sumFaulty("if 1=1then(2)else(3)endx", 1, 20);
  }

  static void p05_lettersAreOneToken() {
    faulty("numa at 0 to 1;", 1, 0);
    faulty("num aat 0 to 1;", 1, 4);
    faulty("num ab at 0 to 1;", 1, 4);
    faulty("nu m a at 0 to 1;", 1, 0);
    faulty("mendmend;", 1, 0);
    sumFaulty("peeka", 1, 0);
  }

  static void p05_lettersAreHighOnesToo() {
    faulty("Mend;", 1, 0);
    faulty("MEND;", 1, 0);
    faulty("mendZ;", 1, 0);
    faulty("num A at 0 to 1;", 1, 4);
    faulty("num aA at 0 to 1;", 1, 4);
    sumFaulty("Size", 1, 0);
  }

  static void p05_bytesBesideLettersAndDigitsAreNone() {
    // @ and [ and ` and { and / and : stand beside A Z a z 0 9.
    String[] beside = {"@", "[", "`", "{", ":"};
    for (String s : beside) faulty("mend" + s, 1, 4);
    for (String s : beside) faulty("size 3" + s + ";", 1, 6);
    faulty("zz;", 1, 0);
    faulty("Az;", 1, 0);
    sumFine("0");
    sumFine("9");
  }

  static void p05_digitsAreOneToken() {
    faulty("size 4 0;", 1, 7);
    fine("size 40;");
    faulty("size 4a;", 1, 6);
    faulty("num a1 at 0 to 1;", 1, 5);
  }

  static void p05_theLongestToken() {
    askFine("1<=2");
    askFine("1>=2");
    askFaulty("1< =2", 1, 3);
    askFaulty("1> =2", 1, 3);
    askFaulty("1=<2", 1, 2);
    askFaulty("1=>2", 1, 2);
    askFaulty("1<>2", 1, 2);
    askFaulty("1==2", 1, 2);
    askFaulty("1<==2", 1, 3);
    askFaulty("1#=2", 1, 2);
    ends("must 1<");
    ends("must 1<=");
  }

  static void p05_aSignThatIsNone() {
    for (int c = 33; c < 256; c++) {
      boolean letter = c >= 'a' && c <= 'z' || c >= 'A' && c <= 'Z', digit = c >= '0' && c <= '9';
      if (letter || digit) continue;
      // Behind a CLAUSE none can stand, be it a sign or none.
      faulty("mend; " + (char) c, 1, 6);
      // Within a SUM + - * / go on, and ; ends it.
      String s = "rots 1" + (char) c + "2;";
      if ("+-*/".indexOf(c) >= 0) fine(s);
      else faulty(s, 1, c == ';' ? 7 : 6);
    }
  }

  // NUMBERS.

  static void p05_numbersAre0To9999() {
    sumFine("0");
    sumFine("9999");
    sumFaulty("10000", 2, 0);
    lawFine("9999");
    lawFaulty("10000", 2, 0);
    askFine("9999=9999");
    askFaulty("9999=10000", 2, 5);
    sumFaulty("1+2*(3-10000", 2, 7);
  }

  static void p05_aNumberOfManyDigits() {
    lawFine("0000000000000000000000009999");
    lawFaulty("0000000000000000000000010000", 2, 0);
    lawFaulty("4294967296", 2, 0);
    lawFaulty("4294967297", 2, 0);
    lawFaulty("18446744073709551616", 2, 0);
    lawFaulty("9".repeat(290), 2, 0);
    fine("size " + "0".repeat(290) + "40;");
    faulty("size " + "0".repeat(290) + "41;", 2, 5);
    fine("day 0060;");
  }

  static void p05_placesAre0To39() {
    fine("set 0 to 1;");
    fine("set 39 to 1;");
    faulty("set 40 to 1;", 2, 4);
    faulty("set 9999 to 1;", 2, 4);
    faulty("set 10000 to 1;", 2, 4);
  }

  static void p05_bytesAre0To255() {
    fine("set 0 to 0;");
    fine("set 0 to 255;");
    faulty("set 0 to 256;", 2, 9);
    faulty("set 0 to 10255;", 2, 9);
  }

  static void p05_sizesAre0To40() {
    fine("size 0;");
    fine("size 40;");
    faulty("size 41;", 2, 5);
  }

  static void p05_daysAre1To60() {
    faulty("day 0;", 2, 4);
    fine("day 1;");
    fine("day 60;");
    faulty("day 61;", 2, 4);
  }

  static void p05_theFirstNumberThatIsNotOne() {
    faulty("set 40 to 256;", 2, 4);
    faulty("set 39 to 256;size 41;", 2, 10);
  }

  static void p05_aNumberAloneIsASum() {
    faulty("set -1 to 1;", 1, 4);
    faulty("set (1) to 1;", 1, 4);
    faulty("set 1 to -1;", 1, 9);
    faulty("set 1+1 to 1;", 1, 5);
    faulty("set a to 1;", 1, 4);
    faulty("size size;", 1, 5);
    faulty("day day;", 1, 4);
    faulty("size 3+1;", 1, 6);
  }

  // What can stand where.

  /** Each beginning of a text that is fine has its FAULT at the length, if it ends within a CLAUSE. */
  static void p05_ofTheEndAtTheLength() {
    String[][] all = {
      {"num", "a", "at", "b", "+", "1", "to", "(", "size", ")", ";"},
      {"sum", "h", "at", "0", "of", "peek", "0", "to", "size", ";"},
      {"nest", "c", "at", "-", "deep", "to", "2", ";"},
      {"must", "not", "1", "<", "2", "or", "3", ">=", "4", "and", "5", "#", "6", ";"},
      {"rots", "if", "day", "=", "1", "then", "place", "else", "old", "end", ";"},
      {"set", "1", "to", "2", ";"}, {"size", "1", ";"}, {"mend", ";"}, {"day", "1", ";"}};
    for (String[] clause : all) {
      String text = "mend;";
      for (int i = 0; i < clause.length; i++) {
        text += clause[i] + " ";
        if (i < clause.length - 1) ends(text);
        else fine(text);
      }
    }
  }

  static void p05_theEndIsAtTheLengthBehindBlanksToo() {
    faulty("mend   \n", 1, 8);
    faulty("mend", 1, 4);
    faulty("size 3" + " ".repeat(294), 1, 300);
  }

  static void p05_otherWordsCantBeginAClause() {
    String[] words = {"at", "of", "to", "peek", "if", "then", "else", "end", "or", "and", "not", "deep", "place", "old", "a", "h", "i", "z", "1", ";", "(", "-", "="};
    for (String s : words) faulty("mend; " + s + " ", 1, 6);
  }

  static void p05_aFieldIsAToH() {
    fine("num a at 0 to 1;");
    fine("num h at 0 to 1;");
    faulty("num i at 0 to 1;", 1, 4);
    faulty("num z at 0 to 1;", 1, 4);
    faulty("num H at 0 to 1;", 1, 4);
    faulty("num at at 0 to 1;", 1, 4);
    faulty("num size at 0 to 1;", 1, 4);
    faulty("num 1 at 0 to 1;", 1, 4);
    sumFine("h");
    sumFaulty("i", 1, 0);
  }

  static void p05_ofIsOfASumAlone() {
    faulty("num a at 0 of 0 to 1;", 1, 11);
    faulty("nest a at 0 of 0 to 1;", 1, 12);
    faulty("sum a at 0 to 1;", 1, 11);
    fine("sum a at 0 of 0 to 1;");
    faulty("sum a of 0 at 0 to 1;", 1, 6);
  }

  static void p05_aSumIsNotAnAsk() {
    askFaulty("1", 1, 1);
    askFaulty("(1=1)", 1, 2);
    askFaulty("1=1=1", 1, 3);
    askFaulty("1<2<3", 1, 3);
    sumFaulty("1=1", 1, 1);
    sumFaulty("not 1=1", 1, 0);
    sumFaulty("1 and 1", 1, 2);
    sumFaulty("1 or 1", 1, 2);
    askFaulty("1=1 or", 1, 6);
    askFaulty("or 1=1", 1, 0);
    askFaulty("1=1 not 1=1", 1, 4);
    askFaulty("1=not 1=1", 1, 2);
  }

  static void p05_aOneThatIsMissing() {
    sumFaulty("1+", 1, 3);
    sumFaulty("+1", 1, 0);
    sumFaulty("*1", 1, 0);
    sumFaulty("1 1", 1, 2);
    sumFaulty("()", 1, 1);
    sumFaulty("(1", 1, 3);
    sumFaulty("1)", 1, 1);
    sumFaulty("peek", 1, 5);
    sumFaulty("peek+1", 1, 4);
    sumFine("peek-1");
    sumFine("peek peek 1");
    sumFine("- -1--1");
    sumFine("peek(1)*peek(2)");
  }

  static void p05_ifHasThenAndElseAndEnd() {
    sumFine("if 1=1 then 1 else 2 end");
    sumFaulty("if 1=1 then 1 end", 1, 14);
    sumFaulty("if 1=1 else 1 end", 1, 7);
    sumFaulty("if 1=1 then 1 else 2", 1, 21);
    sumFaulty("if 1 then 1 else 2 end", 1, 5);
    sumFaulty("if then 1 else 2 end", 1, 3);
    sumFaulty("if 1=1 then else 2 end", 1, 12);
    sumFaulty("if 1=1 then 1=1 else 2 end", 1, 13);
    sumFaulty("then", 1, 0);
    sumFaulty("end", 1, 0);
    sumFine("if not 1=1 and 2=2 or 3=3 then if 1=1 then 1 else 2 end else 3 end*2");
  }

  // What is open.

  static void p05_eightAreOpenNineAreNot() {
    String[] opens = {"(", "-", "peek "};
    for (String s : opens) {
      String close = s.equals("(") ? ")" : "";
      lawFine(s.repeat(8) + "1" + close.repeat(8));
      lawFaulty(s.repeat(9) + "1" + close.repeat(9), 3, 8 * s.length());
    }
    askFine("not ".repeat(8) + "1=1");
    askFaulty("not ".repeat(9) + "1=1", 3, 32);
    lawFine("if 1=1 then ".repeat(8) + "1" + " else 1 end".repeat(8));
    lawFaulty("if 1=1 then ".repeat(9) + "1", 3, 96);
  }

  static void p05_theNinthIsOfAnyKind() {
    String[] opens = {"(", "-", "peek ", "if 1=1 then "};
    for (String s : opens) {
      lawFaulty("((((((((" + s, 3, 8);
      lawFaulty("--------" + s, 3, 8);
      lawFaulty("(-(peek -(-" + s, 1, 11 + s.length());
      lawFaulty("(-(peek -(-(" + s, 3, 12);
      askFaulty("not not not not not not not not " + s, 3, 32);
    }
    lawFaulty("((((((((if ", 3, 8);
    askFaulty("not -(((((((1", 3, 11);
    askFaulty("not -((((((1", 1, 12);
    lawFaulty("(((((((if not 1=1", 3, 10);
    lawFaulty("((((((if not 1=1 then 1 else 1 end)))))", 1, 39);
  }

  static void p05_theNinthIsToldAtIt() {
    // Ahead of what it holds, be that a FAULT too.
    lawFaulty("(((((((((?", 3, 8);
    lawFaulty("(((((((((", 3, 8);
    lawFaulty("((((((((-", 3, 8);
    lawFaulty("((((((((10000", 2, 8);
    lawFaulty("((((((((?", 1, 8);
    lawFaulty("(((((((( \n (", 3, 11);
  }

  static void p05_whatIsClosedIsNotOpen() {
    lawFine("(1)" + "+(1)".repeat(20));
    lawFine("-1" + "*-1".repeat(20));
    lawFine("peek 1" + "+peek 1".repeat(20));
    lawFine("if 1=1 then 1 else 1 end" + "+if 1=1 then 1 else 1 end".repeat(9));
    askFine("not 1=1" + " and not 1=1".repeat(20));
    askFine("not 1=1" + " or not 1=1".repeat(20));
    lawFine("((((((((1))))))))+((((((((1))))))))");
    lawFaulty("((((((((1))))))))+(((((((((1", 3, 26);
    fine("must not not not not 1=1;must not not not not not 1=1;rots ----1;");
  }

  static void p05_whatAFaultLeftOpenIsNotOpenInTheNext() {
    ByteIntervals x = new ByteIntervals();
    for (String t : new String[] {"rots ((((((((", "must not not not 1", "rots if peek -1=1 then"}) {
      due(Check.text(x, t), -1);
      due(Check.text(x, "rots ((((((((1))))))));"), x.about(0) - 1);
      due(x.fault(0), 0);
    }
  }

  static void p05_minusOfTwoIsNotOpen() {
    lawFine("1" + "-1".repeat(40));
    lawFine("(((((((1-(1)-2)))))))");
    lawFaulty("((((((((1-(1", 3, 10);
    lawFaulty("((((((((1--1", 3, 10);
    lawFine("(((((((1--1)))))))");
  }

  static void p05_aNotIsOpenToTheEndOfItsAsk() {
    askFine("not ((((((( 1 ))))))) = ((((((( 1 )))))))");
    askFaulty("not 1=((((((((1", 3, 13);
    askFine("not 1=1 and 1=((((((((1))))))))");
    askFine("not 1=1 or 1=((((((((1))))))))");
  }

  static void p05_anIfIsOpenToItsEnd() {
    lawFaulty("if ((((((((1", 3, 10);
    lawFaulty("if 1=1 then ((((((((1", 3, 19);
    lawFaulty("if 1=1 then 1 else ((((((((1", 3, 26);
    lawFine("if 1=1 then 1 else 1 end+((((((((1))))))))");
  }

  // Told twice.

  static void p05_eachFieldOnce() {
    faulty("num a at 0 to 1;num a at 0 to 1;", 4, 20);
    faulty("num a at 0 to 1;sum a", 4, 20);
    faulty("num a at 0 to 1;nest a", 4, 21);
    faulty("sum h at 0 of 0 to 1;num h", 4, 25);
    fine("num a at 0 to 1;num b at 0 to 1;num c at 0 to 1;num d at 0 to 1;num e at 0 to 1;num f at 0 to 1;num g at 0 to 1;num h at 0 to 1;");
  }

  static void p05_aFieldIsNamedAsOftenAsOneLikes() {
    fine("num a at a+a to a;must a=a;must a=a;num b at a to a;");
  }

  static void p05_rotsOnce() {
    faulty("rots 1;rots 2;", 4, 7);
    faulty("rots 1; mend; rots", 4, 14);
    faulty("rots 1;rots ?", 4, 7);
  }

  static void p05_ofTwoTextsEachHasItsOwn() {
    ByteIntervals x = new ByteIntervals();
    Edges.read(x, "num a at 0 to 1;rots 1;");
    Edges.read(x, "num a at 0 to 1;rots 1;");
    due(x.about(0), 2);
  }

  // NAMES of the CLAUSE.

  static void p05_namesOfEveryClauseButRots() {
    for (String name : new String[] {"a", "h", "deep", "size"}) {
      sumFine(name);
      askFine(name + "=" + name);
      fine("sum b at " + name + " of " + name + " to " + name + ";");
      fine("nest b at " + name + " to " + name + ";");
    }
    for (String name : new String[] {"a", "h", "deep"}) {
      lawFaulty(name, 5, 0);
      lawFaulty("1+peek (" + name, 5, 8);
    }
  }

  static void p05_namesOfRotsAlone() {
    for (String name : new String[] {"day", "place", "old"}) {
      lawFine(name + "*(1+" + name + ")");
      sumFaulty(name, 5, 0);
      askFaulty(name, 5, 0);
      askFaulty("1=2+" + name, 5, 4);
      faulty("sum b at 0 of " + name, 5, 14);
      faulty("nest b at 0 to " + name, 5, 15);
    }
    lawFine("size");
  }

  static void p05_otherWordsAreNoNames() {
    for (String s : new String[] {"i", "z", "num", "sum", "nest", "must", "rots", "set", "mend", "at", "then", "A", "sizes"}) {
      lawFaulty(s, 1, 0);
      sumFaulty("(" + s, 1, 1);
    }
  }

  static void p05_aNameWhereNoneCanStandIs1() {
    faulty("set day to 1;", 1, 4);
    faulty("num a at 1 day", 1, 11);
    faulty("rots 1 a;", 1, 7);
    faulty("rots 1 deep;", 1, 7);
  }

  // CLAUSES.

  static void p05_24ClausesAreTheMost() {
    fine("mend;".repeat(24));
    fine("mend;".repeat(24) + "  \n");
    faulty("mend;".repeat(25), 6, 120);
    faulty("mend;".repeat(24) + " \n day", 6, 123);
    faulty("mend;".repeat(30), 6, 120);
  }

  static void p05_ofEveryKind() {
    String[] kinds = {"num a", "sum a", "nest a", "must", "rots", "set", "size", "mend", "day"};
    for (String kind : kinds) faulty("mend;".repeat(24) + kind, 6, 120);
    String eight = "num a at 0 to 1;num b at 0 to 1;num c at 0 to 1;must 1=1;rots 1;set 0 to 1;size 1;mend;day 1;";
    fine(eight + "mend;".repeat(15));
    faulty(eight + "mend;".repeat(15) + "num d", 6, eight.length() + 75);
  }

  static void p05_ofOneTokenTheLeast() {
    // What is no CLAUSE's first TOKEN behind 24 of them is 1, not 6.
    faulty("mend;".repeat(24) + "x", 1, 120);
    faulty("mend;".repeat(24) + "1", 1, 120);
    faulty("mend;".repeat(24) + "?", 1, 120);
    // The second rots behind them is 4.
    faulty("rots 1;" + "mend;".repeat(23) + "rots 2;", 4, 122);
    // The first is 6.
    faulty("mend;".repeat(24) + "rots 2;", 6, 120);
    // A NUMBER that is none of them where none can stand is 1.
    faulty("mend 10000;", 1, 5);
    sumFaulty("1 10000", 1, 2);
    faulty("num 10000", 1, 4);
    // The ninth where it can't stand is 1.
    lawFaulty("((((((((1(", 1, 9);
    lawFaulty("((((((((1 peek", 1, 10);
    lawFaulty("((((((((1 if", 1, 10);
    lawFaulty("((((((((not", 1, 8);
    // A NAME of another CLAUSE where none can stand is 1.
    sumFaulty("1 day", 1, 2);
  }

  static void p05_theFirstAsTokensAreComeTo() {
    // Each has a lower one behind it.
    faulty("rots a+;?", 5, 5);
    faulty("size 41?", 2, 5);
    faulty("num a at 0 to 1;num a?", 4, 20);
    faulty("mend;".repeat(24) + "mend?", 6, 120);
    lawFaulty("((((((((((?", 3, 8);
    faulty("day 0;rots 1;rots 1;", 2, 4);
    faulty("mend;? rots a;", 1, 5);
  }

  static void p05_threeHundredTokens() {
    faulty("(".repeat(300), 1, 0);
    faulty("mend" + ";".repeat(296), 1, 5);
    ends("rots 1" + "+1".repeat(147));
    lawFaulty("1" + "+1".repeat(146) + ";;", 1, 294);
  }

  static void p05_atTheTokensFirstByte() {
    faulty("  mend ;  \n nothing", 1, 12);
    faulty("size  41;", 2, 6);
    faulty("num  a at 0 to 1;num  a", 4, 22);
    lawFaulty(" deep", 5, 1);
    askFaulty("1 <= ; ", 1, 5);
    askFaulty("1 <= >=", 1, 5);
  }

  // ---- Promise 6: by ----

  static void p06_textsThatAreThere() {
    ByteIntervals x = new ByteIntervals();
    due(x.by(0), false);
    Edges.read(x, "mend;");
    due(x.by(1), false);
    due(x.by(0), true);
    due(x.about(1), 0);
    for (int i = 1; i < 4; i++) Edges.read(x, "mend;");
    due(x.by(3), true);
    due(x.about(1), 3);
    due(x.by(4), false);
  }

  static void p06_falseForOthersAndItStays() {
    ByteIntervals x = Edges.by("mend;");
    due(x.by(1), false);
    due(x.by(-2), false);
    due(x.by(MAX), false);
    due(x.by(MIN), false);
    due(x.about(1), 0);
  }

  static void p06_noneIsNone() {
    ByteIntervals x = new ByteIntervals();
    due(x.by(-1), true);
    due(x.about(1), -1);
    Edges.read(x, "mend;");
    x.by(0);
    due(x.by(-1), true);
    due(x.about(1), -1);
  }

  static void p06_itIsNoStep() {
    ByteIntervals x = Edges.by("mend;");
    due(x.about(2), 0);
  }

  // ---- Promise 11: played ----

  static void p11_othersAreBelowNone() {
    ByteIntervals x = new ByteIntervals();
    due(x.played(0), -2);
    Edges.read(x, "size 3;");
    due(x.played(1), -2);
    due(x.played(-1), -2);
    due(x.played(MAX), -2);
    due(x.played(MIN), -2);
    due(x.is(2), 0);
  }

  static void p11_withoutAnyAllIsDone() {
    ByteIntervals x = Edges.with("");
    due(x.played(0), -1);
    Edges.read(x, "num a at 0 to 1;must 1=2;rots 1;");
    due(x.played(1), -1);
    due(x.about(2), 0);
  }

  static void p11_inTheirOrderEachAStep() {
    ByteIntervals x = Edges.with("size 3;set 2 to 9;day 2;size 2;set 1 to 4;rots 0;");
    x.by(0);
    due(x.played(0), -1);
    due(x.is(2), 2);
    due(x.is(3), 4);
    due(x.is(0), 2);
    due(x.about(2), 6);
    x.undo();
    x.undo();
    due(x.at(2), 9);
  }

  static void p11_theFirstClauseIs0() {
    ByteIntervals x = Edges.with("size 0;");
    due(x.played(0), 0);
  }

  static void p11_theLastClauseIs23() {
    ByteIntervals x = Edges.with("must 1=1;".repeat(23) + "set 0 to 1;");
    due(x.played(0), 23);
  }

  static void p11_itsNumberIsAmongAllClauses() {
    ByteIntervals x = Edges.with("num a at 0 to 1;must 1=1;rots 1;size 2;sum b at 0 of 0 to 1;set 2 to 1;set 1 to 1;");
    due(x.played(0), 5);
    due(x.is(2), 2);
    due(x.at(1), 0);
  }

  static void p11_aSetThatCantBeEndsIt() {
    ByteIntervals x = Edges.with("set 0 to 7;set 1 to 7;", 0);
    due(x.played(0), 1);
    due(x.at(0), 7);
    // It is so: it can't be another one.
    due(x.played(0), 0);
    due(x.about(2), 2);
  }

  static void p11_aSizeThatIsSoEndsIt() {
    ByteIntervals x = Edges.with("size 2;size 2;size 3;");
    due(x.played(0), 1);
    due(x.is(2), 2);
  }

  static void p11_aMendThatCantBeEndsIt() {
    ByteIntervals x = Edges.with("mend;size 9;sum a at 0 of 1 to 2;", 0, 5);
    // No TEXT rules.
    due(x.played(0), 0);
    due(x.is(2), 2);
    x.by(0);
    due(x.played(0), -1);
    due(x.at(0), 5);
    due(x.is(2), 9);
  }

  static void p11_nothingToMendIsDone() {
    ByteIntervals x = Edges.by("mend;mend;sum a at 0 of 1 to 2;", 0, 5);
    due(x.played(0), -1);
    due(x.ledger(2), 2);
  }

  static void p11_itMendsByTheTextThatRules() {
    ByteIntervals x = Edges.with("mend;sum a at 0 of 1 to 2;", 0, 5, 6);
    Edges.read(x, "sum a at 0 of 1 to 3;");
    x.by(1);
    due(x.played(0), -1);
    due(x.at(0), 11);
  }

  static void p11_daysThatCanPassDo() {
    ByteIntervals x = Edges.late(3);
    Edges.read(x, "size 1;day 60;size 2;");
    due(x.played(0), 1);
    due(x.is(0), 9999);
    due(x.is(2), 1);
    // At 9999 none can.
    Edges.read(x, "day 1;");
    due(x.played(1), 0);
    due(x.is(0), 9999);
  }

  static void p11_allDaysThatAreLeftCanPass() {
    ByteIntervals x = Edges.late(60);
    Edges.read(x, "day 60;");
    due(x.played(0), -1);
    due(x.is(0), 9999);
    due(x.about(2), 30);
  }

  static void p11_whatWasDoneStays() {
    ByteIntervals x = Edges.with("size 4;set 3 to 1;set 4 to 1;size 9;");
    due(x.played(0), 2);
    due(x.is(2), 4);
    due(x.at(3), 1);
    due(x.about(2), 2);
  }

  static void p11_theHighestNumbers() {
    ByteIntervals x = Edges.with("size 40;set 39 to 255;set 0 to 0;");
    due(x.played(0), 2);
    due(x.at(39), 255);
    due(x.is(2), 40);
    x = Edges.with("size 1;set 0 to 1;set 0 to 0;size 0;");
    due(x.played(0), -1);
    due(x.book(2, 3), 0);
    due(x.is(2), 0);
  }
}
