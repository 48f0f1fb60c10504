/** The boundary cases that "What it is" and "Terms" name, sentence by sentence. */
public final class EdgeTermsTest {
  private static final int LEAST = Sentences.LEAST;
  private static final int MOST = Sentences.MOST;
  private static final Sentences DOC = new Sentences();

  public static void main(String[] args) {
    calls();
    tables();
    rowsAreOrders();
    setsAreBits();
    oneAloneOrNone();
    lineNumbers();
    goodRows();
    goodRowsByNumber();
    takenOrLeft();
    whyLeast();
    whyAsTheyAreNow();
    knotsAreNotEmpty();
    knotsAreNotCrossed();
    knotNumbers();
    partsOfKnots();
    kindsOfKnots();
    betweenPlaces();
    gapsOfLeftLines();
    greatestGaps();
    weightBounds();
    bestOfSeveral();
    rings();
    refusalsInTheirOrder();
    refusalsChangeOnlyTheirCount();
    DOC.end();
  }

  private static void due(String call, int got, int want) {
    DOC.due(call, got, want);
  }

  private static void calls() {
    DOC.says("An object is used for at most 512 calls");
    OnesDesk x = new OnesDesk();
    for (int i = 0; i < 511; i++) due("call " + i, x.drop(0), -1);
    due("call 512", x.count(11), 511);
    x = new OnesDesk();
    due("call 1", x.table(8), 1);
    for (int i = 2; i <= 511; i += 2) {
      due("call " + i, i == 2 ? x.line(3) : x.again(0), i == 2 ? 0 : 1);
      due("call " + (i + 1), x.drop(0), 1);
    }
    due("call 512", x.again(0), 1);
  }

  private static void tables() {
    DOC.says("A TABLE has COLUMNS 0 to n - 1");
    for (int n = 1; n <= 8; n++) {
      OnesDesk x = DOC.desk(n);
      int end = n <= 2 ? 2 : 1;
      due("the first column", x.ends(0), end);
      due("the last column", x.ends(n - 1), end);
      due("one column more", x.ends(n), -1);
      due("one column less", x.ends(-1), -1);
    }
    DOC.says("n 1 to 8");
    OnesDesk x = new OnesDesk();
    due("table(0)", x.table(0), -4);
    due("table(1)", x.table(1), 1);
    due("table(8)", x.table(8), 1);
    due("table(9)", x.table(9), -6);
    due("columns", x.count(0), 8);
  }

  private static void rowsAreOrders() {
    DOC.says("A ROW is an order of all COLUMNS");
    for (int n = 1; n <= 8; n++) {
      OnesDesk x = DOC.desk(n);
      for (int i : new int[] {0, Sentences.ORDERS[n] / 2, Sentences.ORDERS[n] - 1}) {
        int seen = 0;
        for (int p = 0; p < n; p++) seen |= 1 << x.row(i, p);
        due("columns of row " + i + " of " + n, seen, Sentences.full(n));
      }
    }
  }

  private static void setsAreBits() {
    DOC.says("A SET of COLUMNS is told as bits (COLUMN 0 the lowest)");
    for (int n = 1; n <= 8; n++) {
      OnesDesk x = DOC.desk(n);
      due("the empty set", x.line(0), 0);
      due("column 0", x.line(1), 1);
      due("the last column", x.line(1 << n - 1), 2);
      due("the full set", x.line(Sentences.full(n)), 3);
      due("a column more", x.line(1 << n), -2);
      due("all and a column more", x.line(Sentences.full(n + 1)), -2);
      due("the highest bit", x.line(LEAST), -2);
      due("all bits", x.line(-1), -2);
    }
    OnesDesk x = DOC.desk(3, 6);
    due("1 and 2 are side by side", x.next(1, 2), 2);
    due("0 and 1 need not", x.next(0, 1), 1);
    x = DOC.desk(8, 129);
    due("0 and 7 are side by side", x.next(0, 7), 2);
    due("0 and 1 need not", x.next(0, 1), 1);
  }

  private static void oneAloneOrNone() {
    DOC.says("It stands TOGETHER if its COLUMNS are side by side");
    OnesDesk x = DOC.inOneOrder(8);
    due("two", x.together(3), 2);
    due("the last two", x.together(192), 2);
    due("all", x.together(255), 2);
    due("one is missing in the midst", x.together(5), 0);
    due("all but one in the midst", x.together(255 & ~8), 0);
    due("the first and the last", x.together(129), 0);
    DOC.says("one alone, or none, always");
    due("none", x.together(0), 2);
    for (int c = 0; c < 8; c++) due("one alone", x.together(1 << c), 2);
    due("a line of none", x.line(0), 7);
    for (int c = 0; c < 8; c++) due("a line of one", x.line(1 << c), 8 + c);
    due("all are TAKEN", x.count(2), 16);
    due("rows", x.rows(), 2);
  }

  private static void lineNumbers() {
    DOC.says("LINES have numbers from 0 on (40 at most)");
    for (int n : new int[] {1, 8}) {
      OnesDesk x = DOC.desk(n);
      due("no line 0 yet", x.lineOf(0, 0), -1);
      for (int i = 0; i < 40; i++) due("line " + i, x.line(i % 2), i);
      due("a line more", x.line(0), -6);
      due("lines", x.count(1), 40);
      due("line 0", x.lineOf(0, 0), 0);
      due("line 39", x.lineOf(39, 0), 1);
      due("line 40", x.lineOf(40, 0), -1);
      due("line -1", x.lineOf(-1, 0), -1);
    }
    DOC.says("LINES (40 at most), be they TAKEN, LEFT or DROPPED");
    OnesDesk x = DOC.desk(4, 3, 6, 5, 9, 10);
    due("drop(1)", x.drop(1), 1);
    DOC.fillUp(x, 40);
    due("LEFT", x.count(3), 2);
    due("DROPPED", x.count(4), 1);
    due("a line more", x.line(0), -6);
  }

  private static void goodRows() {
    DOC.says("GOOD are the ROWS in which all TAKEN LINES stand TOGETHER");
    for (int n = 1; n <= 8; n++) {
      due("no line yet: all", DOC.desk(n).rows(), Sentences.ORDERS[n]);
      due("one order", DOC.inOneOrder(n).rows(), n == 1 ? 1 : 2);
      OnesDesk x = DOC.desk(n, 0, Sentences.full(n), 1);
      due("lines that bar nothing", x.rows(), Sentences.ORDERS[n]);
    }
    OnesDesk x = DOC.desk(3, 3, 6, 5);
    due("LEFT ones need not", x.rows(), 2);
    due("drop(1)", x.drop(1), 1);
    due("DROPPED ones need not", x.rows(), 4);
  }

  private static void goodRowsByNumber() {
    DOC.says("numbered from 0 on, by the COLUMN at the first place in which two differ");
    OnesDesk x = DOC.desk(3);
    DOC.rowIs(x, 0, 0, 1, 2);
    DOC.rowIs(x, 1, 0, 2, 1);
    DOC.rowIs(x, 2, 1, 0, 2);
    DOC.rowIs(x, 3, 1, 2, 0);
    DOC.rowIs(x, 4, 2, 0, 1);
    DOC.rowIs(x, 5, 2, 1, 0);
    due("no row 6", x.row(6, 0), -1);
    due("no row -1", x.row(-1, 0), -1);
    x = DOC.desk(8);
    DOC.rowIs(x, 0, 0, 1, 2, 3, 4, 5, 6, 7);
    DOC.rowIs(x, 1, 0, 1, 2, 3, 4, 5, 7, 6);
    DOC.rowIs(x, 5039, 0, 7, 6, 5, 4, 3, 2, 1);
    DOC.rowIs(x, 5040, 1, 0, 2, 3, 4, 5, 6, 7);
    DOC.rowIs(x, 40319, 7, 6, 5, 4, 3, 2, 1, 0);
    due("no row 40320", x.row(40320, 0), -1);
    x = DOC.desk(8, 192, 96, 48, 24, 12, 6, 3);
    DOC.rowIs(x, 0, 0, 1, 2, 3, 4, 5, 6, 7);
    DOC.rowIs(x, 1, 7, 6, 5, 4, 3, 2, 1, 0);
    due("no row 2", x.row(2, 0), -1);
  }

  private static void takenOrLeft() {
    DOC.says("TAKEN if there is a ROW in which it stands TOGETHER with all that are TAKEN");
    OnesDesk x = DOC.desk(4, 3, 6, 12, 9, 15, 7, 8, 0);
    DOC.statesAre(x, 0, 0, 0, 1, 0, 0, 0, 0);
    DOC.says("else it is LEFT");
    due("three neighbours of one", DOC.desk(4, 3, 5, 9).lineOf(2, 1), 1);
    due("a ring of three", DOC.desk(3, 3, 6, 5).lineOf(2, 1), 1);
    due("a ring of three that is all", DOC.desk(4, 3, 6, 7, 5).lineOf(3, 1), 1);
    due("a ring of 8", eightInARing().lineOf(7, 1), 1);
    DOC.says("LEFT lines and DROPPED ones bar no other");
    x = DOC.desk(4, 3, 5, 9);
    due("drop(0)", x.drop(0), 1);
    due("line(10), which 0 1, 0 2 and 0 3 would bar", x.line(10), 3);
    DOC.statesAre(x, 2, 0, 1, 0);
    due("again(2)", x.again(2), 1);
    DOC.statesAre(x, 2, 0, 0, 0);
  }

  private static OnesDesk eightInARing() {
    OnesDesk x = DOC.inOneOrder(8);
    due("the line that would close the ring", x.line(129), 7);
    return x;
  }

  private static void whyLeast() {
    DOC.says("WHY: the least number of a TAKEN LINE");
    due("two bar it", DOC.desk(3, 3, 6, 5).why(2), 1);
    due("later ones do not matter", DOC.desk(4, 3, 6, 5, 7, 15).why(2), 1);
    due("three bar it, no two of them", DOC.desk(4, 3, 6, 12, 9).why(3), 2);
    due("seven bar it", eightInARing().why(7), 6);
    DOC.says("the TAKEN ones up to it");
    OnesDesk x = DOC.desk(4, 5, 3);
    due("drop(0)", x.drop(0), 1);
    due("line(6)", x.line(6), 2);
    due("again(0)", x.again(0), 0);
    due("all that bar line 0 have greater numbers", x.why(0), 2);
    x = DOC.desk(3, 3, 6, 5);
    due("drop(1)", x.drop(1), 1);
    DOC.fillUp(x, 39);
    due("line(6)", x.line(6), 39);
    due("line 39 bars it", x.why(2), 39);
    x = DOC.desk(3, 3, 6);
    DOC.fillUp(x, 39);
    due("line(5)", x.line(5), 39);
    due("why of line 39", x.why(39), 1);
  }

  private static void whyAsTheyAreNow() {
    DOC.says("as they are TAKEN now; -9 if there is none any more");
    OnesDesk x = DOC.desk(4, 3, 6, 5);
    due("0 and 1 bar 2", x.why(2), 1);
    due("drop(0)", x.drop(0), 1);
    due("none bars 2 any more", x.why(2), -9);
    due("it stays LEFT", x.lineOf(2, 1), 1);
    due("line(3)", x.line(3), 3);
    due("1 and 3 bar it", x.why(2), 3);
    due("drop(1)", x.drop(1), 1);
    due("drop(3)", x.drop(3), 1);
    due("no TAKEN line at all", x.count(2), 0);
    due("nothing can bar it", x.why(2), -9);
    DOC.refused(x, 0, 0, 0, 0, 0, 0);
    x = DOC.desk(3, 3, 6, 5);
    DOC.fillUp(x, 40);
    due("all 40 lines", x.why(2), 1);
    due("drop(0)", x.drop(0), 1);
    due("none of all 40 bars it any more", x.why(2), -9);
    x = DOC.desk(3, 0, 0, 0, 3);
    due("table(3)", x.table(3), 1);
    for (int set : new int[] {3, 6, 5}) x.line(set);
    due("drop(0)", x.drop(0), 1);
    due("nor does a line of the table before", x.why(2), -9);
  }

  private static void knotsAreNotEmpty() {
    DOC.says("A KNOT is a SET, not empty, that stands TOGETHER in each GOOD ROW");
    OnesDesk x = DOC.desk(3);
    due("knots", x.knots(), 4);
    due("the first is a column", x.knot(0, 0), 1);
    due("all columns are one", x.knot(3, 0), 7);
    x = DOC.desk(3, 3);
    due("what stands so in each row", x.knots(), 5);
    due("is one", x.knot(3, 0), 3);
    due("drop(0)", x.drop(0), 1);
    due("what stands so in some rows is none", x.knots(), 4);
  }

  private static void knotsAreNotCrossed() {
    DOC.says("of which no other SET that does so has a part, but not all, and something besides");
    OnesDesk x = DOC.desk(4, 3, 6);
    due("0 1 and 1 2 cross", x.knots(), 6);
    due("0 1 2 is whole", x.knot(4, 0), 7);
    x = DOC.desk(4, 3, 7);
    due("one within the other", x.knots(), 7);
    due("0 1", x.knot(4, 0), 3);
    due("0 1 2", x.knot(5, 0), 7);
    x = DOC.desk(4, 3, 12);
    due("one beside the other", x.knots(), 7);
    x = DOC.desk(5, 7, 28);
    due("crossing ones leave their parts", x.knots(), 8);
    due("0 1", x.knot(5, 0), 3);
    due("3 4", x.knot(6, 0), 24);
  }

  private static void knotNumbers() {
    DOC.says("KNOTS are numbered by how many COLUMNS, the fewest first, then by the lesser bits");
    OnesDesk x = DOC.desk(8, 192, 96, 3, 24);
    int[] sets = {1, 2, 4, 8, 16, 32, 64, 128, 3, 24, 224, 255};
    due("knots", x.knots(), sets.length);
    for (int k = 0; k < sets.length; k++) due("knot " + k, x.knot(k, 0), sets[k]);
    due("no knot 12", x.knot(12, 0), -1);
    due("no knot -1", x.knot(-1, 0), -1);
    x = DOC.desk(7, 96, 7);
    due("two columns of great bits", x.knot(7, 0), 96);
    due("come before three of small ones", x.knot(8, 0), 7);
  }

  private static void partsOfKnots() {
    DOC.says("PARTS: the greatest KNOTS within it, but it");
    OnesDesk x = DOC.desk(4, 3, 7);
    due("of all: 0 1 2 and 3", x.knot(6, 2), 2);
    due("0 1 2", x.knot(6, 4), 5);
    due("3", x.knot(6, 5), 3);
    due("of 0 1 2: 0 1 and 2", x.knot(5, 2), 2);
    due("0 1", x.knot(5, 4), 4);
    due("2", x.knot(5, 5), 2);
    DOC.says("none of one COLUMN");
    for (int k = 0; k < 4; k++) {
      due("parts of column " + k, x.knot(k, 2), 0);
      due("its first part", x.knot(k, 4), -2);
    }
    due("of a new object", new OnesDesk().knot(0, 2), 0);
    DOC.says("in the order in which they stand in GOOD ROW 0");
    x = DOC.desk(4, 12, 9, 3);
    DOC.rowIs(x, 0, 1, 0, 3, 2);
    due("first", x.knot(4, 4), 1);
    due("second", x.knot(4, 5), 0);
    due("third", x.knot(4, 6), 3);
    due("last", x.knot(4, 7), 2);
    x = DOC.desk(4, 9);
    DOC.rowIs(x, 0, 0, 3, 1, 2);
    due("0 3 comes first, though its number is greater", x.knot(5, 4), 4);
    due("then 1", x.knot(5, 5), 1);
    due("then 2", x.knot(5, 6), 2);
  }

  private static void kindsOfKnots() {
    DOC.says("KINDS: 0 LEAF (one COLUMN)");
    for (int n = 1; n <= 8; n++) {
      OnesDesk x = DOC.desk(n);
      for (int k = 0; k < n; k++) due("column " + k, x.knot(k, 1), 0);
    }
    DOC.says("1 PAIR (two PARTS)");
    due("two columns", DOC.desk(2).knot(2, 1), 1);
    due("one that was told", DOC.desk(2, 3).knot(2, 1), 1);
    due("a part of many columns", DOC.desk(8, 127).knot(9, 1), 1);
    DOC.says("2 FREE (its PARTS stand in any order in GOOD ROWS)");
    for (int n = 3; n <= 8; n++) due("of " + n, DOC.desk(n).knot(n, 1), 2);
    due("of three parts, one of them many", DOC.desk(8, 63).knot(9, 1), 2);
    DOC.says("3 FIXED (in one order, or turned about)");
    for (int n = 3; n <= 8; n++) due("of " + n, DOC.inOneOrder(n).knot(n, 1), 3);
    due("of three parts, one of them many", DOC.desk(8, 127, 254).knot(9, 1), 3);
  }

  private static void betweenPlaces() {
    DOC.says("b is BETWEEN a and c in a ROW if its place is");
    OnesDesk x = DOC.inOneOrder(8);
    due("next to a", x.between(0, 1, 7), 2);
    due("next to c", x.between(0, 6, 7), 2);
    due("the only one there", x.between(3, 4, 5), 2);
    due("just before a", x.between(1, 0, 7), 0);
    due("just behind c", x.between(0, 7, 6), 0);
    due("a and c may be turned about", x.between(7, 1, 0), 2);
  }

  private static void gapsOfLeftLines() {
    DOC.says("GAPS: how many rows of side by side COLUMNS each has, less 1");
    OnesDesk x = DOC.inOneOrder(8);
    due("two of them", x.line(129), 7);
    due("one gap", x.gaps(0), 1);
    due("drop(7)", x.drop(7), 1);
    due("four of them", x.line(0x55), 8);
    due("three gaps", x.gaps(0), 3);
    due("long ones count once", x.line(0xe7), 9);
    due("a gap more", x.gaps(1), 4);
    DOC.says("the sum, over all LINES that are LEFT");
    due("none is LEFT", DOC.inOneOrder(8).gaps(0), 0);
    due("no line yet", DOC.desk(8).gaps(40319), 0);
    due("drop(8)", x.drop(8), 1);
    due("DROPPED ones count no more", x.gaps(0), 1);
    for (int line = 0; line < 7; line++) due("drop", x.drop(line), 1);
    due("a LEFT one that stands TOGETHER", x.gaps(x.rank(0x34012567)), 0);
    due("and where it does not", x.gaps(x.rank(0x01234567)), 1);
    firstAndLastAreLeft();
    DOC.says("times its WEIGHT");
    due("weight(9, 100)", x.weight(9, 100), 1);
    due("100 times", x.gaps(0), 100);
    due("weight(9, 0)", x.weight(9, 0), 100);
    due("0 times", x.gaps(0), 0);
  }

  private static void firstAndLastAreLeft() {
    DOC.says("all LINES that are LEFT, the first and the last of 40 among them");
    OnesDesk x = DOC.desk(3, 5, 3);
    due("drop(0)", x.drop(0), 1);
    due("line(6)", x.line(6), 2);
    due("again(0)", x.again(0), 0);
    due("the first", x.gaps(0), 1);
    DOC.fillUp(x, 39);
    due("line(5)", x.line(5), 39);
    due("the last, too", x.gaps(0), 2);
    due("drop(0)", x.drop(0), 1);
    due("the last alone", x.gaps(1), 1);
    due("no row has fewer", x.within(0), 0);
  }

  private static void greatestGaps() {
    DOC.says("GAPS of all 40 LINES, of the greatest WEIGHT");
    OnesDesk x = DOC.inOneOrder(8);
    for (int i = 7; i < 40; i++) due("line(85)", x.line(85), i);
    for (int i = 7; i < 40; i++) due("weight 100", x.weight(i, 100), 1);
    due("gaps", x.gaps(0), 9900);
    due("turned about", x.gaps(1), 9900);
    due("fewer", x.within(9899), 0);
    due("so many", x.within(9900), 2);
    for (int i = 0; i < 7; i++) due("drop", x.drop(i), 1);
    due("in one row of side by side ones", x.gaps(x.rank(0x02461357)), 0);
    due("in four", x.gaps(0), 9900);
    // 4! orders of the even ones by 4! of the odd ones, with 0 to 4 odd ones ahead.
    due("no gap", x.within(0), 2880);
    due("all but those of four", x.within(9899), 40320 - 5 * 576);
  }

  private static void weightBounds() {
    DOC.says("WEIGHT (1 at first, 0 .. 100)");
    OnesDesk x = DOC.desk(3, 3, 6, 5, 0);
    for (int line = 0; line < 4; line++) due("at first", x.lineOf(line, 2), 1);
    due("weight(2, 0)", x.weight(2, 0), 1);
    due("weight(2, 100)", x.weight(2, 100), 0);
    due("weight(2, -1)", x.weight(2, -1), -4);
    due("weight(2, 101)", x.weight(2, 101), -6);
    due("it stays", x.lineOf(2, 2), 100);
  }

  private static void bestOfSeveral() {
    DOC.says("BEST is the GOOD ROW of the fewest GAPS, of several the least number");
    for (int n = 1; n <= 8; n++) due("none has any", DOC.desk(n).best(), 0);
    OnesDesk x = DOC.desk(3, 3, 6, 5);
    due("all have one", x.best(), 0);
    due("drop(0)", x.drop(0), 1);
    // 0 1 2, 0 2 1, 1 2 0, 2 1 0; 0 and 2 are side by side in the midmost two.
    due("two have none", x.best(), 1);
    due("again(2)", x.again(2), 1);
    due("again(0)", x.again(0), 0);
    due("all have one", x.best(), 0);
  }

  private static void rings() {
    DOC.says("ROUND: TOGETHER if it does in the ROW");
    OnesDesk x = DOC.inOneOrder(8);
    due("the first two", x.round(3), 2);
    due("the last two", x.round(192), 2);
    due("in the midst", x.round(24), 2);
    DOC.says("or all COLUMNS but it do");
    due("the first and the last", x.round(129), 2);
    due("all but two in the midst", x.round(255 & ~24), 2);
    due("all but one in the midst", x.round(255 & ~8), 2);
    due("neither", x.round(5), 0);
    due("nor what is besides", x.round(255 & ~5), 0);
    DOC.says("ROUND: the empty SET, the full one, one alone");
    due("none", x.round(0), 2);
    due("all", x.round(255), 2);
    for (int c = 0; c < 8; c++) due("one alone", x.round(1 << c), 2);
  }

  private static void refusalsInTheirOrder() {
    DOC.says("the first that fits in the order in which it tells them");
    OnesDesk x = DOC.desk(3, 3, 6, 5);
    due("no such line before below", x.weight(3, -1), -1);
    due("no such line before room", x.weight(3, 101), -1);
    due("no such line before what", x.lineOf(3, 4), -1);
    due("no such row before below", x.row(2, -1), -1);
    due("no such row before room", x.row(2, 3), -1);
    due("no such knot before what", x.knot(4, -1), -1);
    due("no such knot before its part", x.knot(4, 99), -1);
    DOC.fillUp(x, 40);
    due("bits before room", x.line(8), -2);
    due("room", x.line(7), -6);
    DOC.refused(x, 7, 1, 0, 0, 0, 1);
  }

  private static void refusalsChangeOnlyTheirCount() {
    DOC.says("nothing changes but how many there were");
    OnesDesk x = DOC.desk(3, 3, 6, 5);
    due("table(9)", x.table(9), -6);
    due("table(0)", x.table(0), -4);
    due("line(8)", x.line(8), -2);
    due("drop(3)", x.drop(3), -1);
    due("again(1)", x.again(1), -3);
    due("weight(2, 101)", x.weight(2, 101), -6);
    DOC.refused(x, 1, 1, 1, 1, 0, 2);
    DOC.statesAre(x, 0, 0, 1);
    due("columns", x.count(0), 3);
    due("rows", x.rows(), 2);
    due("weight", x.lineOf(2, 2), 1);
    due("the next line", x.line(0), 3);
    DOC.says("the numbers of far values are the same");
    for (int far : new int[] {LEAST, MOST}) {
      due("drop", x.drop(far), -1);
      due("line", x.line(far), -2);
      due("ends", x.ends(far), -1);
      due("row", x.row(far, 0), -1);
      due("knot", x.knot(far, 0), -1);
    }
    due("table(least)", x.table(LEAST), -4);
    due("table(most)", x.table(MOST), -6);
  }
}
