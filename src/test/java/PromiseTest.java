/**
 * Each promise of the document with answers worked out by hand: ordinary inputs, the edges that it
 * names, wrong inputs with their refusal, and what count tells of refusals afterwards.
 */
public final class PromiseTest {
  private static final int LEAST = Integer.MIN_VALUE;
  private static final int MOST = Integer.MAX_VALUE;
  private static final Checks CHECKS = new Checks();

  public static void main(String[] args) {
    newObject();
    tables();
    lines();
    drops();
    agains();
    weights();
    linesOf();
    whys();
    rowsAndTheirNumbers();
    ranks();
    togethers();
    rounds();
    betweens();
    nexts();
    endings();
    distances();
    knotsOfAFreeTable();
    knotsOfAFixedTable();
    knotsOfAMixedTable();
    knotsAreNumberedBySizeThenBits();
    knotRefusals();
    joins();
    gapsOfRows();
    bests();
    withins();
    spares();
    counts();
    refusalsChangeNothingElse();
    CHECKS.end();
  }

  private static void due(String call, int got, int want) {
    CHECKS.due(call, got, want);
  }

  /** A desk with a table of n columns on which these lines were told. */
  private static OnesDesk desk(int n, int... sets) {
    OnesDesk x = new OnesDesk();
    due("table(" + n + ")", x.table(n), 1);
    for (int i = 0; i < sets.length; i++) due("line(" + sets[i] + ")", x.line(sets[i]), i);
    return x;
  }

  /** The refusals -1, -2, -3, -4, -5, -6 that count tells. */
  private static void refused(String after, OnesDesk x, int... want) {
    for (int i = 0; i < 6; i++) {
      due(after + ": count(" + (11 + i) + ")", x.count(11 + i), want[i]);
    }
  }

  private static void rowIs(OnesDesk x, int i, int... columns) {
    for (int p = 0; p < columns.length; p++) {
      due("row(" + i + ", " + p + ")", x.row(i, p), columns[p]);
    }
  }

  private static void newObject() {
    OnesDesk x = new OnesDesk();
    due("new: columns", x.count(0), 1);
    for (int what = 1; what <= 4; what++) due("new: count " + what, x.count(what), 0);
    due("new: rows", x.rows(), 1);
    due("new: row", x.row(0, 0), 0);
    due("new: rank", x.rank(0), 0);
    due("new: knots", x.knots(), 1);
    due("new: best", x.best(), 0);
    due("new: within", x.within(0), 1);
    due("new: together", x.together(1), 2);
    due("new: ends", x.ends(0), 2);
    refused("new", x, 0, 0, 0, 0, 0, 0);
    due("new: line", x.line(1), 0);
  }

  private static void tables() {
    OnesDesk x = new OnesDesk();
    int[] rows = {1, 2, 6, 24, 120, 720, 5040, 40320};
    for (int n = 1; n <= 8; n++) {
      due("table(" + n + ")", x.table(n), 1);
      due("columns", x.count(0), n);
      due("rows of " + n, x.rows(), rows[n - 1]);
    }
    x = desk(3, 3, 6, 5);
    due("table(0)", x.table(0), -4);
    due("table(least)", x.table(LEAST), -4);
    due("table(9)", x.table(9), -6);
    due("table(most)", x.table(MOST), -6);
    refused("tables", x, 0, 0, 0, 2, 0, 2);
    due("columns stay", x.count(0), 3);
    due("lines stay", x.count(1), 3);
    due("rows stay", x.rows(), 2);
    due("table(3)", x.table(3), 1);
    due("no lines", x.count(1), 0);
    due("no LEFT lines", x.count(3), 0);
    due("rows are free again", x.rows(), 6);
    due("no gaps", x.gaps(5), 0);
    due("knots are free again", x.knots(), 4);
    refused("a new table keeps them", x, 0, 0, 0, 2, 0, 2);
    due("numbers start anew", x.line(5), 0);
    due("weight starts anew", x.lineOf(0, 2), 1);
  }

  private static void lines() {
    OnesDesk x = desk(3, 3, 6, 5, 0, 7, 2);
    int[] states = {0, 0, 1, 0, 0, 0};
    for (int i = 0; i < 6; i++) due("state of " + i, x.lineOf(i, 1), states[i]);
    due("line(8)", x.line(8), -2);
    due("line(-1)", x.line(-1), -2);
    due("line(least)", x.line(LEAST), -2);
    for (int i = 6; i < 40; i++) due("line " + i, x.line(3), i);
    due("line 40", x.line(3), -6);
    due("bits are told before room", x.line(8), -2);
    due("drop(39)", x.drop(39), 1);
    due("a DROPPED line keeps its number", x.line(3), -6);
    refused("lines", x, 0, 4, 0, 0, 0, 2);
    due("lines", x.count(1), 40);
    due("rows", x.rows(), 2);
    due("line(128)", desk(8).line(128), 0);
    due("line(256)", desk(8).line(256), -2);
  }

  private static void drops() {
    OnesDesk x = desk(4, 3, 6, 5);
    due("drop(0)", x.drop(0), 1);
    due("it is DROPPED", x.lineOf(0, 1), 2);
    due("LEFT ones stay so", x.lineOf(2, 1), 1);
    due("rows with one pair", x.rows(), 12);
    due("drop(0) twice", x.drop(0), -3);
    due("drop a LEFT one", x.drop(2), 1);
    due("it is DROPPED", x.lineOf(2, 1), 2);
    due("rows stay", x.rows(), 12);
    due("no gaps are left", x.within(0), 12);
    due("drop(3)", x.drop(3), -1);
    due("drop(-1)", x.drop(-1), -1);
    due("drop(40)", x.drop(40), -1);
    due("drop(most)", x.drop(MOST), -1);
    due("drop(1)", x.drop(1), 1);
    due("all rows", x.rows(), 24);
    refused("drops", x, 4, 0, 1, 0, 0, 0);
    x = desk(3, 3, 3);
    due("drop one of two", x.drop(0), 1);
    due("the other still holds", x.rows(), 4);
  }

  private static void agains() {
    OnesDesk x = desk(3, 3, 6, 5);
    due("again TAKEN", x.again(0), -3);
    due("again LEFT", x.again(2), 0);
    due("it stays LEFT", x.lineOf(2, 1), 1);
    due("drop(0)", x.drop(0), 1);
    due("again LEFT, now free", x.again(2), 1);
    due("it is TAKEN", x.lineOf(2, 1), 0);
    rowIs(x, 0, 0, 2, 1);
    due("again DROPPED, now barred", x.again(0), 0);
    due("it is LEFT", x.lineOf(0, 1), 1);
    due("its number stays", x.count(1), 3);
    due("weight(0, 9)", x.weight(0, 9), 1);
    due("drop(0)", x.drop(0), 1);
    due("drop(1)", x.drop(1), 1);
    due("again DROPPED, now free", x.again(0), 1);
    due("its weight stays", x.lineOf(0, 2), 9);
    due("again(3)", x.again(3), -1);
    due("again(-1)", x.again(-1), -1);
    refused("agains", x, 2, 0, 1, 0, 0, 0);
  }

  private static void weights() {
    OnesDesk x = desk(3, 3, 6, 5);
    due("weight(2, 100)", x.weight(2, 100), 1);
    due("weight(2, 0)", x.weight(2, 0), 100);
    due("weight 0 counts no gaps", x.gaps(0), 0);
    due("weight(2, 7)", x.weight(2, 7), 0);
    due("gaps are weighed", x.gaps(0), 7);
    due("weight of a TAKEN one", x.weight(0, 50), 1);
    due("that counts no gaps", x.gaps(0), 7);
    due("weight(2, -1)", x.weight(2, -1), -4);
    due("weight(2, least)", x.weight(2, LEAST), -4);
    due("weight(2, 101)", x.weight(2, 101), -6);
    due("weight(3, -1)", x.weight(3, -1), -1);
    due("weight(-1, 101)", x.weight(-1, 101), -1);
    due("refused ones change nothing", x.lineOf(2, 2), 7);
    due("drop(2)", x.drop(2), 1);
    due("weight of a DROPPED one", x.weight(2, 3), 7);
    refused("weights", x, 2, 0, 0, 2, 0, 1);
  }

  private static void linesOf() {
    OnesDesk x = desk(4, 7, 14, 9, 0);
    due("drop(1)", x.drop(1), 1);
    due("weight(2, 33)", x.weight(2, 33), 1);
    int[][] want = {{7, 0, 1, 3}, {14, 2, 1, 3}, {9, 1, 33, 2}, {0, 0, 1, 0}};
    for (int line = 0; line < 4; line++) {
      for (int what = 0; what < 4; what++) {
        due("lineOf(" + line + ", " + what + ")", x.lineOf(line, what), want[line][what]);
      }
    }
    due("lineOf(0, 4)", x.lineOf(0, 4), -2);
    due("lineOf(0, -1)", x.lineOf(0, -1), -2);
    due("lineOf(4, 0)", x.lineOf(4, 0), -1);
    due("lineOf(4, 4)", x.lineOf(4, 4), -1);
    due("lineOf(least, 0)", x.lineOf(LEAST, 0), -1);
    refused("linesOf", x, 3, 2, 0, 0, 0, 0);
  }

  private static void whys() {
    OnesDesk x = desk(5, 24, 3, 6, 5);
    due("why(3)", x.why(3), 2);
    due("why of a TAKEN one", x.why(0), -3);
    due("drop(1)", x.drop(1), 1);
    due("nothing bars it any more", x.why(3), -9);
    due("why of a DROPPED one", x.why(1), -3);
    due("line(3)", x.line(3), 4);
    due("a later line bars it", x.why(3), 4);
    due("again(3)", x.again(3), 0);
    due("drop(2)", x.drop(2), 1);
    due("again(1)", x.again(1), 1);
    due("again(3)", x.again(3), 1);
    due("why of one TAKEN now", x.why(3), -3);
    due("again(2)", x.again(2), 0);
    due("1 and 3 bar 2", x.why(2), 3);
    due("drop(3)", x.drop(3), 1);
    due("drop(4)", x.drop(4), 1);
    due("line(14)", x.line(14), 5);
    due("again(2)", x.again(2), 1);
    due("line(10)", x.line(10), 6);
    due("0, 1 and 2 bar it", x.why(6), 2);
    due("why(7)", x.why(7), -1);
    due("why(-1)", x.why(-1), -1);
    refused("whys", x, 2, 0, 3, 0, 0, 0);
    x = desk(4, 7, 12, 8, 10);
    due("lines 0 and 1 bar it", x.why(3), 1);
    due("drop(1)", x.drop(1), 1);
    due("line(9)", x.line(9), 4);
    due("lines 0 and 4 bar it", x.why(3), 4);
  }

  private static void rowsAndTheirNumbers() {
    OnesDesk x = desk(4, 6);
    due("rows", x.rows(), 12);
    rowIs(x, 0, 0, 1, 2, 3);
    rowIs(x, 1, 0, 2, 1, 3);
    rowIs(x, 2, 0, 3, 1, 2);
    rowIs(x, 3, 0, 3, 2, 1);
    rowIs(x, 4, 1, 2, 0, 3);
    rowIs(x, 5, 1, 2, 3, 0);
    rowIs(x, 6, 2, 1, 0, 3);
    rowIs(x, 11, 3, 2, 1, 0);
    due("row(12, 0)", x.row(12, 0), -1);
    due("row(-1, -1)", x.row(-1, -1), -1);
    due("row(0, -1)", x.row(0, -1), -4);
    due("row(0, least)", x.row(0, LEAST), -4);
    due("row(0, 4)", x.row(0, 4), -6);
    due("row(11, most)", x.row(11, MOST), -6);
    refused("rows", x, 2, 0, 0, 2, 0, 2);
    rowIs(desk(8), 40319, 7, 6, 5, 4, 3, 2, 1, 0);
    rowIs(desk(8), 5040, 1, 0, 2, 3, 4, 5, 6, 7);
  }

  private static void ranks() {
    OnesDesk x = desk(4, 6);
    due("rank 0123", x.rank(0x0123), 0);
    due("rank 0213", x.rank(0x0213), 1);
    due("rank 1203", x.rank(0x1203), 4);
    due("rank 3210", x.rank(0x3210), 11);
    due("not GOOD", x.rank(0x1023), -9);
    due("a column twice", x.rank(0x0122), -9);
    due("no such column", x.rank(0x0124), -9);
    due("column 15", x.rank(0x012f), -9);
    due("bits ahead", x.rank(0x10123), -9);
    due("highest bit ahead", x.rank(LEAST | 0x0123), -9);
    due("rank(0)", x.rank(0), -9);
    due("rank(-1)", x.rank(-1), -9);
    refused("ranks", x, 0, 0, 0, 0, 0, 0);
    x = desk(8);
    due("rank of eight", x.rank(0x01234567), 0);
    due("rank of the last", x.rank(0x76543210), 40319);
    due("the highest bit", x.rank(0x81234567), -9);
    due("least", x.rank(LEAST), -9);
    x = desk(7);
    due("rank of seven", x.rank(0x0123456), 0);
    due("bits ahead of seven", x.rank(0x70123456), -9);
  }

  private static void togethers() {
    OnesDesk x = desk(4, 3, 6);
    due("a line", x.together(3), 2);
    due("their union", x.together(7), 2);
    due("none", x.together(0), 2);
    due("one", x.together(8), 2);
    due("all", x.together(15), 2);
    due("in some", x.together(12), 1);
    due("in none", x.together(5), 0);
    due("16", x.together(16), -2);
    due("-1", x.together(-1), -2);
    refused("togethers", x, 0, 2, 0, 0, 0, 0);
  }

  private static void rounds() {
    OnesDesk x = desk(5, 3, 6, 12, 24);
    due("the ends meet", x.round(17), 2);
    due("more of the ends", x.round(19), 2);
    due("not within", x.round(5), 0);
    due("nor the others", x.round(26), 0);
    due("none", x.round(0), 2);
    due("all", x.round(31), 2);
    due("all but one", x.round(27), 2);
    due("32", x.round(32), -2);
    due("-1", x.round(-1), -2);
    refused("rounds", x, 0, 2, 0, 0, 0, 0);
    x = desk(4, 3);
    due("in each, now as it is, now as what is besides", x.round(12), 2);
    due("in some", x.round(6), 1);
    due("in some in rows", x.together(12), 1);
  }

  private static void betweens() {
    OnesDesk x = desk(4, 3, 6);
    due("1 is between", x.between(0, 1, 2), 2);
    due("turned about", x.between(2, 1, 0), 2);
    due("0 is not", x.between(1, 0, 2), 0);
    due("sometimes", x.between(0, 2, 3), 1);
    due("3 cannot", x.between(0, 3, 2), 0);
    due("a = b", x.between(0, 0, 1), -1);
    due("b = c", x.between(0, 1, 1), -1);
    due("a = c", x.between(0, 1, 0), -1);
    due("a", x.between(4, 1, 0), -1);
    due("b", x.between(0, -1, 1), -1);
    due("c", x.between(0, 1, 4), -1);
    refused("betweens", x, 6, 0, 0, 0, 0, 0);
  }

  private static void nexts() {
    OnesDesk x = desk(4, 3, 6);
    due("in each", x.next(1, 0), 2);
    due("in some", x.next(2, 3), 1);
    due("in none", x.next(0, 2), 0);
    due("one", x.next(1, 1), -1);
    due("a", x.next(-1, 1), -1);
    due("b", x.next(1, 4), -1);
    refused("nexts", x, 3, 0, 0, 0, 0, 0);
  }

  private static void endings() {
    OnesDesk x = desk(4, 3, 6);
    due("in each", x.ends(3), 2);
    due("in some", x.ends(0), 1);
    due("in none", x.ends(1), 0);
    due("4", x.ends(4), -1);
    due("-1", x.ends(-1), -1);
    refused("endings", x, 2, 0, 0, 0, 0, 0);
    due("of two columns", desk(2).ends(1), 2);
  }

  private static void distances() {
    OnesDesk x = desk(5, 3, 6);
    due("fixed, least", x.apart(0, 2, true), 2);
    due("fixed, greatest", x.apart(2, 0, false), 2);
    due("0 and 3, least", x.apart(0, 3, true), 1);
    due("0 and 3, greatest", x.apart(0, 3, false), 4);
    due("1 and 3, least", x.apart(1, 3, true), 2);
    due("1 and 3, greatest", x.apart(1, 3, false), 3);
    due("3 and 4, least", x.apart(3, 4, true), 1);
    due("3 and 4, greatest", x.apart(3, 4, false), 4);
    due("one", x.apart(2, 2, true), -1);
    due("a", x.apart(5, 2, true), -1);
    due("b", x.apart(2, -1, false), -1);
    refused("distances", x, 3, 0, 0, 0, 0, 0);
    due("of two, greatest", desk(2).apart(0, 1, false), 1);
  }

  private static void knotIs(OnesDesk x, int k, int set, int kind, int above, int... parts) {
    String name = "knot " + k;
    due(name + " set", x.knot(k, 0), set);
    due(name + " kind", x.knot(k, 1), kind);
    due(name + " how many parts", x.knot(k, 2), parts.length);
    due(name + " above", x.knot(k, 3), above);
    for (int i = 0; i < parts.length; i++) due(name + " part " + i, x.knot(k, 4 + i), parts[i]);
    due(name + " no more parts", x.knot(k, 4 + parts.length), -2);
  }

  private static void knotsOfAFreeTable() {
    OnesDesk x = desk(3);
    due("knots", x.knots(), 4);
    for (int k = 0; k < 3; k++) knotIs(x, k, 1 << k, 0, 3);
    knotIs(x, 3, 7, 2, -9, 0, 1, 2);
    refused("the parts that there were not", x, 0, 4, 0, 0, 0, 0);
    x = desk(2);
    due("knots of two", x.knots(), 3);
    knotIs(x, 2, 3, 1, -9, 0, 1);
    x = desk(1);
    due("knots of one", x.knots(), 1);
    knotIs(x, 0, 1, 0, -9);
  }

  private static void knotsOfAFixedTable() {
    // The only GOOD rows are 1 3 0 2 and 2 0 3 1; the first is number 0.
    OnesDesk x = desk(4, 10, 9, 5);
    due("rows", x.rows(), 2);
    due("knots", x.knots(), 5);
    knotIs(x, 4, 15, 3, -9, 1, 3, 0, 2);
    due("drop(1)", x.drop(1), 1);
    due("knots of two pairs", x.knots(), 7);
    knotIs(x, 4, 5, 1, 6, 0, 2);
    knotIs(x, 5, 10, 1, 6, 1, 3);
    knotIs(x, 6, 15, 1, -9, 4, 5);
    due("again(1)", x.again(1), 1);
    due("knots are fixed again", x.knots(), 5);
  }

  private static void knotsOfAMixedTable() {
    // Above: FIXED of {1 2 7}, 0, {3 4}, 5, 6 with {1 2 7} FREE and {3 4} a PAIR.
    OnesDesk x = desk(8, 134, 135, 25, 56, 96, 24);
    due("rows", x.rows(), 24);
    due("knots", x.knots(), 11);
    knotIs(x, 8, 24, 1, 10, 3, 4);
    knotIs(x, 9, 134, 2, 10, 1, 2, 7);
    knotIs(x, 10, 255, 3, -9, 9, 0, 8, 5, 6);
    knotIs(x, 7, 128, 0, 9);
    rowIs(x, 0, 1, 2, 7, 0, 3, 4, 5, 6);
  }

  private static void knotsAreNumberedBySizeThenBits() {
    OnesDesk x = desk(8, 192, 7, 48);
    due("knots", x.knots(), 12);
    int[] sets = {1, 2, 4, 8, 16, 32, 64, 128, 48, 192, 7, 255};
    for (int k = 0; k < 12; k++) due("set of knot " + k, x.knot(k, 0), sets[k]);
    knotIs(x, 11, 255, 2, -9, 10, 3, 8, 9);
    OnesDesk most = desk(8, 3, 7, 15, 31, 63, 127);
    due("the most knots", most.knots(), 15);
    knotIs(most, 14, 255, 1, -9, 13, 7);
    knotIs(most, 9, 7, 1, 10, 8, 2);
  }

  private static void knotRefusals() {
    OnesDesk x = desk(3, 3);
    due("knot(5, 0)", x.knot(5, 0), -1);
    due("knot(-1, 0)", x.knot(-1, 0), -1);
    due("knot(5, -1)", x.knot(5, -1), -1);
    due("knot(4, -1)", x.knot(4, -1), -2);
    due("knot(4, 6)", x.knot(4, 6), -2);
    due("knot(0, 4)", x.knot(0, 4), -2);
    due("knot(4, most)", x.knot(4, MOST), -2);
    due("knot(4, least)", x.knot(4, LEAST), -2);
    refused("knots", x, 3, 5, 0, 0, 0, 0);
  }

  private static void joins() {
    OnesDesk x = desk(8, 134, 135, 25, 56, 96, 24);
    due("within the pair", x.join(3, 4), 8);
    due("within the free one", x.join(7, 1), 9);
    due("above", x.join(0, 1), 10);
    due("of the fixed one", x.join(5, 6), 10);
    due("one", x.join(7, 7), 7);
    due("join(8, 0)", x.join(8, 0), -1);
    due("join(0, 8)", x.join(0, 8), -1);
    due("join(-1, -1)", x.join(-1, -1), -1);
    refused("joins", x, 3, 0, 0, 0, 0, 0);
  }

  /** All 24 rows are GOOD; {0 2} of weight 10 and {0 3} of weight 4 are LEFT. */
  private static OnesDesk torn() {
    OnesDesk x = desk(4, 3, 6, 12, 5, 9);
    for (int line = 0; line < 3; line++) due("drop", x.drop(line), 1);
    due("weight(3, 10)", x.weight(3, 10), 1);
    due("weight(4, 4)", x.weight(4, 4), 1);
    return x;
  }

  private static void gapsOfRows() {
    OnesDesk x = torn();
    due("all rows are GOOD", x.rows(), 24);
    due("0 1 2 3", x.gaps(0), 14);
    due("0 1 3 2", x.gaps(1), 14);
    due("0 2 1 3", x.gaps(2), 4);
    due("0 3 1 2", x.gaps(4), 10);
    due("1 2 0 3", x.gaps(x.rank(0x1203)), 0);
    due("gaps(24)", x.gaps(24), -1);
    due("gaps(-1)", x.gaps(-1), -1);
    refused("gaps", x, 2, 0, 0, 0, 0, 0);
    x = desk(6, 3, 6, 12, 24, 48, 21, 42);
    due("three runs are two gaps", x.gaps(0), 4);
    due("weight(5, 100)", x.weight(5, 100), 1);
    due("weighed", x.gaps(1), 202);
    due("drop(6)", x.drop(6), 1);
    due("DROPPED ones have none", x.gaps(1), 200);
    x = desk(3, 5, 3);
    due("drop(0)", x.drop(0), 1);
    due("line(6)", x.line(6), 2);
    due("again(0)", x.again(0), 0);
    due("line 0 has gaps, too", x.gaps(0), 1);
  }

  private static void bests() {
    OnesDesk x = torn();
    due("1 2 0 3 is the first without gaps", x.best(), 8);
    rowIs(x, 8, 1, 2, 0, 3);
    due("line(6)", x.line(6), 5);
    due("the same row, numbered among fewer", x.best(), 4);
    rowIs(x, 4, 1, 2, 0, 3);
    due("no LEFT lines: the first", desk(8).best(), 0);
    x = desk(3, 3, 6, 5);
    due("all alike: the least", x.best(), 0);
    due("drop(1)", x.drop(1), 1);
    due("1 0 2 has no gap", x.best(), 1);
    rowIs(x, 1, 1, 0, 2);
    due("weight(2, 0)", x.weight(2, 0), 1);
    due("nothing weighs", x.best(), 0);
  }

  private static void withins() {
    OnesDesk x = torn();
    // {0 2} whole in 12 of 24 rows, {0 3} in 12, both in 4.
    due("none", x.within(-1), 0);
    due("least", x.within(LEAST), 0);
    due("0", x.within(0), 4);
    due("3", x.within(3), 4);
    due("4", x.within(4), 12);
    due("9", x.within(9), 12);
    due("10", x.within(10), 20);
    due("13", x.within(13), 20);
    due("14", x.within(14), 24);
    due("most", x.within(MOST), 24);
    refused("withins", x, 0, 0, 0, 0, 0, 0);
    due("no LEFT lines", desk(8).within(0), 40320);
  }

  private static void spares() {
    OnesDesk x = desk(4, 3, 6, 7, 15, 3, 5);
    due("told twice", x.spare(0), 1);
    due("alone", x.spare(1), 0);
    due("follows from others", x.spare(2), 1);
    due("all columns", x.spare(3), 1);
    due("LEFT", x.spare(5), -3);
    due("drop(4)", x.drop(4), 1);
    due("no longer told twice", x.spare(0), 0);
    due("DROPPED", x.spare(4), -3);
    due("drop(0)", x.drop(0), 1);
    due("no longer follows", x.spare(2), 0);
    due("spare(6)", x.spare(6), -1);
    due("spare(-1)", x.spare(-1), -1);
    due("it stays TAKEN", x.count(2), 3);
    due("rows stay", x.rows(), 8);
    refused("spares", x, 2, 0, 2, 0, 0, 0);
  }

  private static void counts() {
    OnesDesk x = desk(4, 3, 6, 5, 12, 9, 10);
    due("drop(0)", x.drop(0), 1);
    int[] want = {4, 6, 2, 3, 1};
    for (int what = 0; what < 5; what++) due("count " + what, x.count(what), want[what]);
    for (int what : new int[] {LEAST, -9, -1, 5, 6, 9, 10, 17, 18, MOST}) {
      due("count(" + what + ")", x.count(what), -9);
    }
    refused("a wrong what is no refusal", x, 0, 0, 0, 0, 0, 0);
    due("-1", x.drop(9), -1);
    due("-2", x.line(99), -2);
    due("-3", x.drop(0), -3);
    due("-4", x.table(0), -4);
    due("-6", x.table(10), -6);
    refused("one of each", x, 1, 1, 1, 1, 0, 1);
  }

  private static void refusalsChangeNothingElse() {
    OnesDesk x = torn();
    due("again", x.again(0), 1);
    int[] before = sight(x);
    x.table(0);
    x.table(9);
    x.line(-1);
    x.drop(9);
    x.drop(1);
    x.again(0);
    x.again(9);
    x.weight(0, -1);
    x.weight(0, 101);
    x.lineOf(0, 4);
    x.why(0);
    x.row(0, 4);
    x.together(16);
    x.between(0, 0, 1);
    x.knot(0, 9);
    x.spare(1);
    int[] after = sight(x);
    for (int i = 0; i < before.length; i++) due("sight " + i, after[i], before[i]);
    refused("sixteen", x, 3, 4, 4, 2, 0, 3);
  }

  private static int[] sight(OnesDesk x) {
    return new int[] {x.count(0), x.count(1), x.count(2), x.count(3), x.count(4), x.rows(),
        x.row(3, 1), x.knots(), x.best(), x.gaps(5), x.within(4), x.lineOf(0, 2), x.lineOf(1, 1)};
  }
}
