/** The boundary cases of the promises on rows and columns: 9 to 17 and 21 to 23. */
public final class EdgeRowsTest {
  private static final int LEAST = Sentences.LEAST;
  private static final int MOST = Sentences.MOST;
  private static final Sentences DOC = new Sentences();

  public static void main(String[] args) {
    howManyRows();
    rowsAndPlaces();
    rowRefusals();
    ranks();
    ranksOfNoRow();
    ranksOfRowsThatAreNotGood();
    togethers();
    togetherRefusals();
    rounds();
    betweens();
    betweenRefusals();
    nexts();
    endings();
    distances();
    gapsOfRows();
    bests();
    bestOfEight();
    withins();
    DOC.end();
  }

  private static void due(String call, int got, int want) {
    DOC.due(call, got, want);
  }

  /** 0 1 2 .. as 4 bits each, the first one the highest. */
  private static int upward(int n) {
    int row = 0;
    for (int c = 0; c < n; c++) row = row << 4 | c;
    return row;
  }

  private static int downward(int n) {
    int row = 0;
    for (int c = n - 1; c >= 0; c--) row = row << 4 | c;
    return row;
  }

  private static void howManyRows() {
    DOC.says("9: How many ROWS are GOOD");
    for (int n = 1; n <= 8; n++) {
      due("no line yet, columns " + n, DOC.desk(n).rows(), Sentences.ORDERS[n]);
      due("the fewest, columns " + n, DOC.inOneOrder(n).rows(), n == 1 ? 1 : 2);
    }
    OnesDesk x = DOC.inOneOrder(8);
    for (int i = 7; i < 40; i++) due("line(" + i + ")", x.line(i), i);
    due("all 40 lines", x.rows(), 2);
    for (int i = 0; i < 40; i++) due("drop", x.drop(i), 1);
    due("all DROPPED", x.rows(), 40320);
  }

  private static void rowsAndPlaces() {
    DOC.says("10: The COLUMN at a place (from 0) of GOOD ROW i");
    for (int n = 1; n <= 8; n++) {
      OnesDesk x = DOC.desk(n);
      int last = Sentences.ORDERS[n] - 1;
      due("first row, first place", x.row(0, 0), 0);
      due("first row, last place", x.row(0, n - 1), n - 1);
      due("last row, first place", x.row(last, 0), n - 1);
      due("last row, last place", x.row(last, n - 1), 0);
    }
    OnesDesk x = DOC.desk(8, 128 | 1, 64 | 2, 129 | 66);
    // Blocks {0 7}, {1 6}, which are side by side, and 2 3 4 5: 5! * 2 * 2 * 2.
    due("rows", x.rows(), 960);
    DOC.rowIs(x, 0, 0, 7, 1, 6, 2, 3, 4, 5);
    DOC.rowIs(x, 959, 7, 0, 6, 1, 5, 4, 3, 2);
  }

  private static void rowRefusals() {
    DOC.says("10: -1 (ROW)");
    for (int n = 1; n <= 8; n++) {
      OnesDesk x = DOC.desk(n);
      int rows = Sentences.ORDERS[n];
      for (int i : new int[] {LEAST, -1, rows, MOST}) {
        for (int place : new int[] {LEAST, -1, 0, n - 1, n, MOST}) {
          due("row(" + i + ", " + place + ")", x.row(i, place), -1);
        }
      }
      DOC.refused(x, 24, 0, 0, 0, 0, 0);
    }
    due("a row that is GOOD no more", DOC.desk(3, 3).row(4, 0), -1);
    DOC.says("10: -4, -6 a place that there is not");
    for (int n = 1; n <= 8; n++) {
      OnesDesk x = DOC.desk(n);
      for (int i : new int[] {0, Sentences.ORDERS[n] - 1}) {
        due("place -1", x.row(i, -1), -4);
        due("place least", x.row(i, LEAST), -4);
        due("place n", x.row(i, n), -6);
        due("place most", x.row(i, MOST), -6);
      }
      DOC.refused(x, 0, 0, 0, 4, 0, 4);
    }
  }

  private static void ranks() {
    DOC.says("11: The number of a ROW among the GOOD ones");
    for (int n = 1; n <= 8; n++) {
      OnesDesk x = DOC.desk(n);
      due("the first", x.rank(upward(n)), 0);
      due("the last", x.rank(downward(n)), Sentences.ORDERS[n] - 1);
      x = DOC.inOneOrder(n);
      due("the first of one order", x.rank(upward(n)), 0);
      due("the last of one order", x.rank(downward(n)), n == 1 ? 0 : 1);
    }
    OnesDesk x = DOC.desk(4, 6);
    for (int i = 0; i < 12; i++) {
      int row = 0;
      for (int p = 0; p < 4; p++) row = row << 4 | x.row(i, p);
      due("row " + i, x.rank(row), i);
    }
  }

  private static void ranksOfNoRow() {
    DOC.says("11: -9 if it is no ROW");
    for (int n = 1; n <= 8; n++) {
      OnesDesk x = DOC.desk(n);
      int row = upward(n);
      due("a column that there is not, at the end", x.rank(row + 1), -9);
      due("column 15 at the end", x.rank(row | 15), -9);
      due("at the beginning", x.rank(row | n << 4 * (n - 1)), -9);
      due("the highest column there", x.rank(row | 15 << 4 * (n - 1)), -9);
      if (n > 1) {
        due("one twice", x.rank(row - 1), -9);
        due("0 alone", x.rank(0), -9);
      }
      due("all bits", x.rank(-1), -9);
      due("least", x.rank(LEAST), -9);
      due("most", x.rank(MOST), -9);
      DOC.refused(x, 0, 0, 0, 0, 0, 0);
    }
    DOC.says("11: bits ahead of it must be 0");
    for (int n = 1; n <= 7; n++) {
      OnesDesk x = DOC.desk(n);
      for (int bit = 4 * n; bit < 32; bit++) {
        due("bit " + bit + " ahead of " + n, x.rank(downward(n) | 1 << bit), -9);
      }
      due("a row of a column more", x.rank(downward(n + 1)), -9);
    }
    due("with none ahead", DOC.desk(7).rank(0x6543210), 5039);
    due("8 columns have no bits ahead", DOC.desk(8).rank(0x76543210), 40319);
    due("8 columns, the highest bit", DOC.desk(8).rank(LEAST | 0x76543210), -9);
    due("8 columns of which one stands twice", DOC.desk(8).rank(0x06543210), -9);
  }

  private static void ranksOfRowsThatAreNotGood() {
    DOC.says("11: -9 if it is not GOOD");
    OnesDesk x = DOC.desk(3, 3);
    due("0 1 2", x.rank(0x012), 0);
    due("0 2 1", x.rank(0x021), -9);
    due("1 2 0", x.rank(0x120), -9);
    due("2 1 0", x.rank(0x210), 3);
    due("drop(0)", x.drop(0), 1);
    due("0 2 1, GOOD now", x.rank(0x021), 1);
    due("2 1 0, of more rows", x.rank(0x210), 5);
    DOC.refused(x, 0, 0, 0, 0, 0, 0);
  }

  private static void togethers() {
    DOC.says("12: 2 it stands TOGETHER in each GOOD ROW");
    for (int n = 1; n <= 8; n++) {
      OnesDesk x = DOC.desk(n);
      due("none", x.together(0), 2);
      due("the first column", x.together(1), 2);
      due("the last column", x.together(1 << n - 1), 2);
      due("all", x.together(Sentences.full(n)), 2);
    }
    OnesDesk x = DOC.inOneOrder(8);
    for (int from = 0; from < 8; from++) {
      for (int many = 1; from + many <= 8; many++) {
        due("side by side", x.together(Sentences.full(many) << from), 2);
      }
    }
    DOC.says("12: 1 in some");
    due("in 4 of 6", DOC.desk(3).together(3), 1);
    due("in 4 of 12", DOC.desk(4, 7).together(12), 1);
    due("in 10080 of 40320", DOC.desk(8).together(192), 1);
    due("all but one, in 10080 of 40320", DOC.desk(8).together(127), 1);
    DOC.says("12: 0 in none");
    due("of 2 rows", DOC.desk(3, 3, 6).together(5), 0);
    for (int from = 0; from + 2 < 8; from++) due("one between", x.together(5 << from), 0);
    due("both ends", x.together(129), 0);
    due("all but one in the midst", x.together(255 & ~2), 0);
  }

  private static void togetherRefusals() {
    DOC.says("12: -2");
    for (int n = 1; n <= 8; n++) {
      OnesDesk x = DOC.desk(n);
      due("the last set", x.together(Sentences.full(n)), 2);
      int[] others = {1 << n, 1 << n | 1, 256, 1 << 30, MOST, -1, LEAST};
      for (int set : others) due("together(" + set + ")", x.together(set), -2);
      DOC.refused(x, 0, others.length, 0, 0, 0, 0);
      DOC.says("13: -2");
      due("the last set", x.round(Sentences.full(n)), 2);
      for (int set : others) due("round(" + set + ")", x.round(set), -2);
      DOC.refused(x, 0, 2 * others.length, 0, 0, 0, 0);
      DOC.says("12: -2");
    }
    due("a line that is taken as it is", DOC.desk(8, 129).together(129), 2);
  }

  private static void rounds() {
    DOC.says("13: in each ring, one or two or three COLUMNS");
    for (int n = 1; n <= 3; n++) {
      OnesDesk x = DOC.desk(n);
      for (int set = 0; set <= Sentences.full(n); set++) due("round(" + set + ")", x.round(set), 2);
    }
    DOC.says("13: in each ring, 8 COLUMNS");
    OnesDesk x = DOC.desk(8);
    due("none", x.round(0), 2);
    due("all", x.round(255), 2);
    for (int c = 0; c < 8; c++) {
      due("one", x.round(1 << c), 2);
      due("all but one", x.round(255 & ~(1 << c)), 2);
    }
    DOC.says("13: in some rings");
    due("two", x.round(3), 1);
    due("all but two", x.round(63), 1);
    DOC.says("13: in each, in some only since what is besides stands TOGETHER");
    due("0 1 and 2 3", DOC.desk(4, 3).round(12), 2);
    DOC.says("13: in none");
    x = DOC.inOneOrder(4);
    due("0 2", x.round(5), 0);
    due("1 3", x.round(10), 0);
    due("0 3", x.round(9), 2);
    due("1 2", x.round(6), 2);
  }

  private static void betweens() {
    DOC.says("14: 2 in each GOOD ROW");
    due("of three columns", DOC.inOneOrder(3).between(0, 1, 2), 2);
    due("of 8, the outermost", DOC.inOneOrder(8).between(0, 1, 7), 2);
    due("of 8, the last", DOC.inOneOrder(8).between(7, 6, 5), 2);
    DOC.says("14: 1 in some");
    due("of three columns", DOC.desk(3).between(0, 1, 2), 1);
    due("of 8", DOC.desk(8).between(7, 0, 6), 1);
    due("two side by side, one beyond", DOC.desk(3, 3).between(0, 1, 2), 1);
    DOC.says("14: 0 in none");
    due("of three columns", DOC.inOneOrder(3).between(1, 0, 2), 0);
    due("of three columns", DOC.inOneOrder(3).between(0, 2, 1), 0);
    due("two side by side", DOC.desk(3, 3).between(0, 2, 1), 0);
    due("of 8", DOC.inOneOrder(8).between(1, 0, 7), 0);
  }

  private static void betweenRefusals() {
    DOC.says("14: -1");
    for (int n = 3; n <= 8; n++) {
      OnesDesk x = DOC.desk(n);
      due("the last columns", x.between(n - 1, n - 2, n - 3), 1);
      for (int no : new int[] {LEAST, -1, n, MOST}) {
        due("a", x.between(no, 0, 1), -1);
        due("b", x.between(0, no, 1), -1);
        due("c", x.between(0, 1, no), -1);
      }
      DOC.refused(x, 12, 0, 0, 0, 0, 0);
    }
    DOC.says("14: also if two are one");
    OnesDesk x = DOC.desk(3);
    due("a and b", x.between(1, 1, 2), -1);
    due("b and c", x.between(1, 2, 2), -1);
    due("a and c", x.between(1, 2, 1), -1);
    due("all", x.between(1, 1, 1), -1);
    due("of two columns there are no three", DOC.desk(2).between(0, 1, 0), -1);
    due("of one neither", DOC.desk(1).between(0, 0, 0), -1);
    DOC.refused(x, 4, 0, 0, 0, 0, 0);
  }

  private static void nexts() {
    DOC.says("15: 2 in each GOOD ROW");
    due("of two columns", DOC.desk(2).next(0, 1), 2);
    due("the first two of 8", DOC.inOneOrder(8).next(0, 1), 2);
    due("the last two of 8", DOC.inOneOrder(8).next(7, 6), 2);
    DOC.says("15: 1 in some");
    due("of three columns", DOC.desk(3).next(2, 0), 1);
    due("of 8", DOC.desk(8).next(0, 7), 1);
    DOC.says("15: 0");
    due("the ends of three", DOC.inOneOrder(3).next(0, 2), 0);
    due("the ends of 8", DOC.inOneOrder(8).next(0, 7), 0);
    DOC.says("15: -1");
    for (int n = 2; n <= 8; n++) {
      OnesDesk x = DOC.desk(n);
      due("the last two", x.next(n - 1, n - 2), n == 2 ? 2 : 1);
      for (int no : new int[] {LEAST, -1, n, MOST}) {
        due("a", x.next(no, 0), -1);
        due("b", x.next(0, no), -1);
      }
      DOC.refused(x, 8, 0, 0, 0, 0, 0);
    }
    DOC.says("15: also for one");
    for (int n = 1; n <= 8; n++) {
      OnesDesk x = DOC.desk(n);
      for (int c = 0; c < n; c++) due("next(" + c + ", " + c + ")", x.next(c, c), -1);
      DOC.refused(x, n, 0, 0, 0, 0, 0);
    }
  }

  private static void endings() {
    DOC.says("16: at an end (first or last): 2");
    due("one column is both", DOC.desk(1).ends(0), 2);
    due("of two, the one", DOC.desk(2).ends(0), 2);
    due("of two, the other", DOC.desk(2).ends(1), 2);
    OnesDesk x = DOC.inOneOrder(8);
    due("column 0", x.ends(0), 2);
    due("column 7", x.ends(7), 2);
    DOC.says("16: 1");
    for (int n = 3; n <= 8; n++) {
      for (int c = 0; c < n; c++) due("ends(" + c + ") of " + n, DOC.desk(n).ends(c), 1);
    }
    DOC.says("16: 0");
    for (int c = 1; c < 7; c++) due("ends(" + c + ")", x.ends(c), 0);
    due("of three", DOC.inOneOrder(3).ends(1), 0);
    DOC.says("16: -1");
    for (int n = 1; n <= 8; n++) {
      x = DOC.desk(n);
      for (int no : new int[] {LEAST, -1, n, MOST}) due("ends(" + no + ")", x.ends(no), -1);
      DOC.refused(x, 4, 0, 0, 0, 0, 0);
    }
  }

  private static void distances() {
    DOC.says("17: The least distance of places (least false: the greatest)");
    for (int n = 2; n <= 8; n++) {
      OnesDesk x = DOC.desk(n);
      due("least", x.apart(0, n - 1, true), 1);
      due("greatest", x.apart(0, n - 1, false), n - 1);
      x = DOC.inOneOrder(n);
      due("the ends, least", x.apart(n - 1, 0, true), n - 1);
      due("the ends, greatest", x.apart(n - 1, 0, false), n - 1);
      due("neighbours, least", x.apart(n - 2, n - 1, true), 1);
      due("neighbours, greatest", x.apart(n - 2, n - 1, false), 1);
    }
    DOC.says("17: -1");
    for (int n = 2; n <= 8; n++) {
      OnesDesk x = DOC.desk(n);
      for (int no : new int[] {LEAST, -1, n, MOST}) {
        due("a, least", x.apart(no, 0, true), -1);
        due("a, greatest", x.apart(no, 0, false), -1);
        due("b, least", x.apart(0, no, true), -1);
        due("b, greatest", x.apart(0, no, false), -1);
      }
      DOC.refused(x, 16, 0, 0, 0, 0, 0);
    }
    DOC.says("17: also for one");
    for (int n = 1; n <= 8; n++) {
      OnesDesk x = DOC.desk(n);
      due("the first, least", x.apart(0, 0, true), -1);
      due("the last, greatest", x.apart(n - 1, n - 1, false), -1);
      DOC.refused(x, 2, 0, 0, 0, 0, 0);
    }
  }

  private static void gapsOfRows() {
    DOC.says("21: GAPS of GOOD ROW i");
    for (int n = 1; n <= 8; n++) {
      due("no line, first row", DOC.desk(n).gaps(0), 0);
      due("no line, last row", DOC.desk(n).gaps(Sentences.ORDERS[n] - 1), 0);
    }
    OnesDesk x = DOC.desk(3, 3, 6, 5);
    due("the first", x.gaps(0), 1);
    due("the last", x.gaps(1), 1);
    DOC.says("21: -1");
    due("the first that there is not", x.gaps(2), -1);
    due("gaps(-1)", x.gaps(-1), -1);
    due("gaps(least)", x.gaps(LEAST), -1);
    due("gaps(most)", x.gaps(MOST), -1);
    DOC.refused(x, 4, 0, 0, 0, 0, 0);
    due("of a new object", new OnesDesk().gaps(1), -1);
    due("of 8 columns", DOC.desk(8).gaps(40320), -1);
    due("of one order of 8", DOC.inOneOrder(8).gaps(2), -1);
  }

  private static void bests() {
    DOC.says("22: BEST: the number of that ROW");
    due("of a new object", new OnesDesk().best(), 0);
    due("of one order", DOC.inOneOrder(8).best(), 0);
    OnesDesk x = DOC.desk(3, 3, 6, 5);
    for (int line = 0; line < 2; line++) due("drop", x.drop(line), 1);
    // 0 1 2 has a gap, 0 2 1 has none.
    due("of all rows", x.best(), 1);
    due("weight(2, 0)", x.weight(2, 0), 1);
    due("no weight", x.best(), 0);
    due("weight(2, 100)", x.weight(2, 100), 0);
    due("the greatest weight", x.best(), 1);
    due("drop(2)", x.drop(2), 1);
    due("no LEFT line", x.best(), 0);
    DOC.says("22: of two that cannot both be kept, the WEIGHT tells");
    x = DOC.desk(4, 9, 5, 3);
    due("drop(1)", x.drop(1), 1);
    due("line(3)", x.line(3), 3);
    due("again(1)", x.again(1), 0);
    due("drop(0)", x.drop(0), 1);
    due("drop(3)", x.drop(3), 1);
    due("line(10)", x.line(10), 4);
    due("line(12)", x.line(12), 5);
    DOC.statesAre(x, 2, 1, 1, 2, 0, 0);
    // GOOD: 0 1 3 2, which tears {0 2}, 0 2 3 1, which tears {0 1}, and both turned about.
    due("rows", x.rows(), 4);
    due("alike: the least number", x.best(), 0);
    due("weight(1, 2)", x.weight(1, 2), 1);
    due("{0 2} weighs more", x.best(), 1);
    due("weight(2, 2)", x.weight(2, 2), 1);
    due("alike", x.best(), 0);
    due("weight(2, 100)", x.weight(2, 100), 2);
    due("weight(1, 99)", x.weight(1, 99), 2);
    due("{0 1} weighs more", x.best(), 0);
    due("weight(2, 98)", x.weight(2, 98), 100);
    due("{0 2} weighs more", x.best(), 1);
  }

  private static void bestOfEight() {
    DOC.says("22: BEST of 8 COLUMNS");
    OnesDesk x = DOC.inOneOrder(8);
    int[] pairs = {5, 20, 80, 66, 10, 40, 160};
    for (int i = 0; i < 7; i++) due("line(" + pairs[i] + ")", x.line(pairs[i]), 7 + i);
    due("all torn but where there is no other row", x.best(), 0);
    due("gaps", x.gaps(0), 7);
    for (int line = 0; line < 7; line++) due("drop", x.drop(line), 1);
    // 0 2 4 6 1 3 5 7, ahead of which are 720 + 2 * 120 + 3 * 24 rows.
    due("the one order without gaps", x.best(), 1032);
    DOC.rowIs(x, 1032, 0, 2, 4, 6, 1, 3, 5, 7);
    due("gaps", x.gaps(1032), 0);
    due("turned about", x.within(0), 2);
    due("drop(10)", x.drop(10), 1);
    // 0 2 4 6 and 1 3 5 7 now stand free: 0 2 4 6 1 3 5 7 is still the least.
    due("the least of 8", x.best(), 1032);
    due("8", x.within(0), 8);
    due("line(3)", x.line(3), 14);
    // 6 4 2 0 1 3 5 7 alone, numbered among the rows with 0 1 side by side.
    due("numbered among fewer", x.best(), x.rank(0x64201357));
    due("gaps", x.gaps(x.best()), 0);
    due("turned about", x.within(0), 2);
  }

  private static void withins() {
    DOC.says("23: How many GOOD ROWS have so many GAPS, or fewer");
    for (int n = 1; n <= 8; n++) {
      OnesDesk x = DOC.desk(n);
      due("least", x.within(LEAST), 0);
      due("-1", x.within(-1), 0);
      due("0", x.within(0), Sentences.ORDERS[n]);
      due("most", x.within(MOST), Sentences.ORDERS[n]);
      DOC.refused(x, 0, 0, 0, 0, 0, 0);
    }
    OnesDesk x = DOC.desk(3, 3, 6, 5);
    due("0", x.within(0), 0);
    due("1", x.within(1), 2);
    for (int line = 0; line < 2; line++) due("drop", x.drop(line), 1);
    due("weight(2, 100)", x.weight(2, 100), 1);
    due("-1", x.within(-1), 0);
    due("0", x.within(0), 4);
    due("99", x.within(99), 4);
    due("100", x.within(100), 6);
    due("weight(2, 0)", x.weight(2, 0), 100);
    due("no weight, 0", x.within(0), 6);
    due("no weight, -1", x.within(-1), 0);
  }
}
