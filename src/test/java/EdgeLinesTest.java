/** The boundary cases of the promises on tables and lines: 1 to 8, 24 and 25. */
public final class EdgeLinesTest {
  private static final int LEAST = Sentences.LEAST;
  private static final int MOST = Sentences.MOST;
  private static final Sentences DOC = new Sentences();

  public static void main(String[] args) {
    newObjectHasOneColumn();
    newObjectHasNoLines();
    objectsAreTheirOwn();
    tableBounds();
    tableHasNoLines();
    refusedTableKeepsAll();
    lineSets();
    lineRoom();
    drops();
    droppedOnesAreAsNeverTold();
    leftOnesStaySo();
    agains();
    againWithAllLines();
    weights();
    linesOf();
    whys();
    sparesOfTakenLines();
    spareRefusals();
    counts();
    countsOfRefusals();
    DOC.end();
  }

  private static void due(String call, int got, int want) {
    DOC.due(call, got, want);
  }

  private static void newObjectHasOneColumn() {
    DOC.says("1: A TABLE of one COLUMN");
    OnesDesk x = new OnesDesk();
    due("columns", x.count(0), 1);
    due("rows", x.rows(), 1);
    due("row(0, 0)", x.row(0, 0), 0);
    due("row(0, 1)", x.row(0, 1), -6);
    due("row(1, 0)", x.row(1, 0), -1);
    due("rank(0)", x.rank(0), 0);
    due("rank(1)", x.rank(1), -9);
    due("ends(0)", x.ends(0), 2);
    due("ends(1)", x.ends(1), -1);
    due("together(1)", x.together(1), 2);
    due("together(2)", x.together(2), -2);
    due("round(1)", x.round(1), 2);
    due("round(2)", x.round(2), -2);
    due("join(0, 0)", x.join(0, 0), 0);
    due("join(0, 1)", x.join(0, 1), -1);
    due("knots", x.knots(), 1);
    due("knot(0, 3)", x.knot(0, 3), -9);
    due("knot(1, 0)", x.knot(1, 0), -1);
    due("next(0, 1)", x.next(0, 1), -1);
    due("apart(0, 1, true)", x.apart(0, 1, true), -1);
    due("between(0, 1, 2)", x.between(0, 1, 2), -1);
    due("line(2)", x.line(2), -2);
    due("line(1)", x.line(1), 0);
  }

  private static void newObjectHasNoLines() {
    DOC.says("1: no LINES");
    OnesDesk x = new OnesDesk();
    for (int what = 1; what <= 4; what++) due("count(" + what + ")", x.count(what), 0);
    DOC.refused(x, 0, 0, 0, 0, 0, 0);
    due("gaps(0)", x.gaps(0), 0);
    due("best()", x.best(), 0);
    due("within(0)", x.within(0), 1);
    due("drop(0)", x.drop(0), -1);
    due("again(0)", x.again(0), -1);
    due("weight(0, 1)", x.weight(0, 1), -1);
    due("lineOf(0, 0)", x.lineOf(0, 0), -1);
    due("why(0)", x.why(0), -1);
    due("spare(0)", x.spare(0), -1);
    DOC.refused(x, 6, 0, 0, 0, 0, 0);
    due("the first line", x.line(0), 0);
  }

  private static void objectsAreTheirOwn() {
    DOC.says("1: A new object is as it is, whatever was told to others");
    OnesDesk other = DOC.inOneOrder(8);
    OnesDesk x = new OnesDesk();
    due("line(9) of another", other.line(300), -2);
    due("columns", x.count(0), 1);
    due("lines", x.count(1), 0);
    DOC.refused(x, 0, 0, 0, 0, 0, 0);
    due("table(2)", x.table(2), 1);
    due("the other's columns", other.count(0), 8);
    due("the other's rows", other.rows(), 2);
  }

  private static void tableBounds() {
    DOC.says("2: A TABLE of n COLUMNS: 1");
    OnesDesk x = new OnesDesk();
    for (int n = 8; n >= 1; n--) {
      due("table(" + n + ")", x.table(n), 1);
      due("columns", x.count(0), n);
      due("rows", x.rows(), Sentences.ORDERS[n]);
    }
    DOC.says("2: -4");
    due("table(0)", x.table(0), -4);
    due("table(-1)", x.table(-1), -4);
    due("table(least)", x.table(LEAST), -4);
    DOC.refused(x, 0, 0, 0, 3, 0, 0);
    DOC.says("2: -6");
    due("table(9)", x.table(9), -6);
    due("table(10)", x.table(10), -6);
    due("table(most)", x.table(MOST), -6);
    DOC.refused(x, 0, 0, 0, 3, 0, 3);
    due("columns stay", x.count(0), 1);
  }

  private static void tableHasNoLines() {
    DOC.says("2: no LINES");
    OnesDesk x = DOC.desk(4, 3, 6, 5);
    due("weight(0, 9)", x.weight(0, 9), 1);
    due("weight(2, 9)", x.weight(2, 9), 1);
    due("drop(1)", x.drop(1), 1);
    DOC.fillUp(x, 40);
    due("table(4), as before", x.table(4), 1);
    for (int what = 1; what <= 4; what++) due("count(" + what + ")", x.count(what), 0);
    due("no line 0", x.lineOf(0, 0), -1);
    due("no line 39", x.lineOf(39, 0), -1);
    due("nothing is barred", x.rows(), 24);
    due("no gaps", x.within(0), 24);
    due("knots", x.knots(), 5);
    due("numbers begin anew", x.line(5), 0);
    due("TAKEN", x.lineOf(0, 1), 0);
    due("weights begin anew", x.lineOf(0, 2), 1);
    DOC.fillUp(x, 40);
    due("and end at 40", x.line(0), -6);
    DOC.says("2: a TABLE of fewer COLUMNS, of more");
    due("table(2)", x.table(2), 1);
    due("bits of the old table", x.line(4), -2);
    due("its columns", x.ends(2), -1);
    due("its rows", x.row(2, 0), -1);
    due("its places", x.row(0, 2), -6);
    due("its knots", x.knot(3, 0), -1);
    due("table(8)", x.table(8), 1);
    due("line(128)", x.line(128), 0);
    due("ends(7)", x.ends(7), 1);
    due("row(40319, 7)", x.row(40319, 7), 0);
    due("knots", x.knots(), 9);
  }

  private static void refusedTableKeepsAll() {
    DOC.says("2: a refused one keeps TABLE and LINES");
    for (int n : new int[] {LEAST, 0, 9, MOST}) {
      OnesDesk x = DOC.desk(3, 3, 6, 5);
      due("drop(1)", x.drop(1), 1);
      due("table(" + n + ")", x.table(n), n < 1 ? -4 : -6);
      due("columns", x.count(0), 3);
      DOC.statesAre(x, 0, 2, 1);
      due("rows", x.rows(), 4);
      due("knots", x.knots(), 5);
      due("gaps", x.gaps(0), 1);
    }
  }

  private static void lineSets() {
    DOC.says("3: A LINE is told: its number");
    for (int n = 1; n <= 8; n++) {
      OnesDesk x = DOC.desk(n);
      due("the empty set", x.line(0), 0);
      due("the full set", x.line(Sentences.full(n)), 1);
      due("one twice", x.line(Sentences.full(n)), 2);
      DOC.statesAre(x, 0, 0, 0);
    }
    OnesDesk x = DOC.desk(3, 3, 6);
    due("a LEFT one has a number, too", x.line(5), 2);
    due("and so has the next", x.line(5), 3);
    DOC.says("3: -2");
    for (int n = 1; n <= 8; n++) {
      x = DOC.desk(n);
      int[] others = {1 << n, 1 << n | 1, Sentences.full(n + 1), 256, 1 << 30, MOST, -1, LEAST};
      for (int set : others) due("line(" + set + ")", x.line(set), -2);
      due("no line is told", x.count(1), 0);
      DOC.refused(x, 0, others.length, 0, 0, 0, 0);
    }
  }

  private static void lineRoom() {
    DOC.says("3: -6 there are 40");
    for (int n : new int[] {1, 3, 8}) {
      OnesDesk x = DOC.desk(n);
      DOC.fillUp(x, 39);
      due("the 40th", x.line(1), 39);
      due("the 41st", x.line(1), -6);
      due("the empty set, too", x.line(0), -6);
      due("the full set, too", x.line(Sentences.full(n)), -6);
      due("bits are told first", x.line(1 << n), -2);
      due("drop(39)", x.drop(39), 1);
      due("a DROPPED one makes no room", x.line(1), -6);
      due("lines", x.count(1), 40);
      DOC.refused(x, 0, 1, 0, 0, 0, 4);
    }
  }

  private static void drops() {
    DOC.says("4: A TAKEN LINE, or a LEFT one, is DROPPED: 1");
    OnesDesk x = DOC.desk(3, 3, 6, 5);
    DOC.fillUp(x, 40);
    due("TAKEN, the first", x.drop(0), 1);
    due("LEFT", x.drop(2), 1);
    due("the last", x.drop(39), 1);
    due("one of none", x.drop(3), 1);
    due("DROPPED", x.count(4), 4);
    due("lines stay", x.count(1), 40);
    due("rows", x.rows(), 4);
    DOC.says("4: -1");
    due("drop(40)", x.drop(40), -1);
    due("drop(-1)", x.drop(-1), -1);
    due("drop(least)", x.drop(LEAST), -1);
    due("drop(most)", x.drop(MOST), -1);
    due("no line yet", new OnesDesk().drop(0), -1);
    due("not yet told", DOC.desk(3, 3).drop(1), -1);
    DOC.says("4: -3");
    for (int line : new int[] {0, 2, 3, 39}) due("DROPPED twice", x.drop(line), -3);
    DOC.refused(x, 4, 0, 4, 0, 0, 0);
    due("DROPPED", x.count(4), 4);
    due("the others' rows", x.rows(), 4);
  }

  private static void droppedOnesAreAsNeverTold() {
    DOC.says("4: GOOD ROWS without a DROPPED LINE are those of the others");
    OnesDesk x = DOC.inOneOrder(4);
    due("drop the midmost", x.drop(1), 1);
    due("rows", x.rows(), 8);
    due("knots", x.knots(), 7);
    due("0 1", x.knot(4, 0), 3);
    due("2 3", x.knot(5, 0), 12);
    due("least distance", x.apart(0, 3, true), 1);
    due("greatest distance", x.apart(1, 2, false), 3);
    due("an end", x.ends(1), 1);
    due("next", x.next(0, 3), 1);
    due("drop the first", x.drop(0), 1);
    due("greatest distance", x.apart(0, 1, false), 3);
    due("drop the last", x.drop(2), 1);
    due("all rows", x.rows(), 24);
    due("knots of none", x.knots(), 5);
    x = DOC.inOneOrder(4);
    due("drop the first", x.drop(0), 1);
    due("rows", x.rows(), 4);
    due("least distance of those kept", x.apart(1, 3, true), 2);
    due("greatest distance of those kept", x.apart(1, 3, false), 2);
    due("least distance of the one let go", x.apart(0, 2, true), 2);
    due("greatest distance of the one let go", x.apart(0, 3, false), 3);
    due("knots", x.knots(), 6);
    due("1 2 3", x.knot(4, 0), 14);
    due("kind", x.knot(4, 1), 3);
  }

  private static void leftOnesStaySo() {
    DOC.says("4: LEFT ones stay so");
    OnesDesk x = DOC.desk(4, 3, 6, 5, 10);
    DOC.statesAre(x, 0, 0, 1, 1);
    for (int line = 0; line < 2; line++) due("drop", x.drop(line), 1);
    DOC.statesAre(x, 2, 2, 1, 1);
    due("nothing is TAKEN", x.count(2), 0);
    due("all rows", x.rows(), 24);
    due("why", x.why(2), -9);
    due("their gaps count", x.gaps(0), 2);
  }

  private static void agains() {
    DOC.says("5: A LEFT LINE is told again: 1 it is TAKEN, 0 LEFT");
    OnesDesk x = DOC.desk(3, 3, 6, 5);
    due("barred still", x.again(2), 0);
    DOC.statesAre(x, 0, 0, 1);
    due("drop(1)", x.drop(1), 1);
    due("barred no more", x.again(2), 1);
    DOC.statesAre(x, 0, 2, 0);
    due("rows", x.rows(), 2);
    DOC.says("5: or a DROPPED one");
    due("barred", x.again(1), 0);
    DOC.statesAre(x, 0, 1, 0);
    due("drop(2)", x.drop(2), 1);
    due("drop(1)", x.drop(1), 1);
    due("not barred", x.again(1), 1);
    DOC.statesAre(x, 0, 0, 2);
    DOC.says("5: its number stays");
    due("lines", x.count(1), 3);
    due("its set", x.lineOf(1, 0), 6);
    due("the next number", x.line(0), 3);
    DOC.says("5: -1");
    due("again(4)", x.again(4), -1);
    due("again(-1)", x.again(-1), -1);
    due("again(least)", x.again(LEAST), -1);
    due("again(most)", x.again(MOST), -1);
    due("no line yet", new OnesDesk().again(0), -1);
    DOC.says("5: -3");
    due("TAKEN", x.again(0), -3);
    due("TAKEN, of none", x.again(3), -3);
    DOC.refused(x, 4, 0, 2, 0, 0, 0);
    DOC.statesAre(x, 0, 0, 2, 0);
  }

  private static void againWithAllLines() {
    DOC.says("5: told again when there are 40");
    OnesDesk x = DOC.desk(3, 3, 6, 5);
    DOC.fillUp(x, 39);
    due("line(5)", x.line(5), 39);
    due("the last, LEFT", x.again(39), 0);
    due("drop(39)", x.drop(39), 1);
    due("the last, DROPPED", x.again(39), 0);
    due("drop(0)", x.drop(0), 1);
    due("the last, TAKEN", x.again(39), 1);
    due("the first", x.again(0), 0);
    due("one alone is told: the other LEFT one stays so", x.lineOf(2, 1), 1);
    due("none past the last", x.again(40), -1);
    due("lines", x.count(1), 40);
    DOC.refused(x, 1, 0, 0, 0, 0, 0);
  }

  private static void weights() {
    DOC.says("6: WEIGHT of a LINE: what it was");
    OnesDesk x = DOC.desk(3, 3, 6, 5);
    DOC.fillUp(x, 40);
    due("drop(1)", x.drop(1), 1);
    for (int line : new int[] {0, 1, 2, 39}) {
      due("1 at first", x.weight(line, 0), 1);
      due("the least", x.weight(line, 100), 0);
      due("the greatest", x.weight(line, 100), 100);
      due("the same", x.weight(line, 99), 100);
    }
    due("states stay", x.count(2), 38);
    DOC.says("6: -1");
    for (int w : new int[] {LEAST, -1, 0, 100, 101, MOST}) {
      due("weight(40, w)", x.weight(40, w), -1);
      due("weight(-1, w)", x.weight(-1, w), -1);
    }
    due("no line yet", new OnesDesk().weight(0, 1), -1);
    DOC.says("6: -4");
    for (int line : new int[] {0, 1, 2, 39}) {
      due("weight(line, -1)", x.weight(line, -1), -4);
      due("weight(line, least)", x.weight(line, LEAST), -4);
    }
    DOC.says("6: -6");
    for (int line : new int[] {0, 1, 2, 39}) {
      due("weight(line, 101)", x.weight(line, 101), -6);
      due("weight(line, most)", x.weight(line, MOST), -6);
      due("it stays", x.lineOf(line, 2), 99);
    }
    DOC.refused(x, 12, 0, 0, 8, 0, 8);
  }

  private static void linesOf() {
    DOC.says("7: 0 its SET, 3 how many COLUMNS");
    OnesDesk x = DOC.desk(8, 0, 1, 128, 255);
    int[] sets = {0, 1, 128, 255};
    int[] many = {0, 1, 1, 8};
    for (int line = 0; line < 4; line++) {
      due("set", x.lineOf(line, 0), sets[line]);
      due("columns", x.lineOf(line, 3), many[line]);
    }
    DOC.says("7: 1 0 TAKEN, 1 LEFT, 2 DROPPED");
    x = DOC.desk(3, 3, 6, 5);
    due("TAKEN", x.lineOf(1, 1), 0);
    due("LEFT", x.lineOf(2, 1), 1);
    due("drop(1)", x.drop(1), 1);
    due("DROPPED", x.lineOf(1, 1), 2);
    due("drop(2)", x.drop(2), 1);
    due("DROPPED", x.lineOf(2, 1), 2);
    due("its set stays", x.lineOf(2, 0), 5);
    DOC.says("7: 2 WEIGHT");
    due("at first", x.lineOf(0, 2), 1);
    due("weight(0, 100)", x.weight(0, 100), 1);
    due("the greatest", x.lineOf(0, 2), 100);
    due("weight(0, 0)", x.weight(0, 0), 100);
    due("the least", x.lineOf(0, 2), 0);
    DOC.says("7: -1");
    for (int what : new int[] {LEAST, -1, 0, 3, 4, MOST}) {
      due("lineOf(3, what)", x.lineOf(3, what), -1);
      due("lineOf(-1, what)", x.lineOf(-1, what), -1);
    }
    due("no line yet", new OnesDesk().lineOf(0, 0), -1);
    DOC.says("7: -2");
    for (int what : new int[] {LEAST, -1, 4, MOST}) due("lineOf(2, what)", x.lineOf(2, what), -2);
    DOC.refused(x, 12, 4, 0, 0, 0, 0);
  }

  private static void whys() {
    DOC.says("8: WHY of a LEFT LINE");
    OnesDesk x = DOC.desk(4, 3, 6, 5, 12, 9);
    due("the first two bar it", x.why(2), 1);
    due("the first three that are TAKEN do", x.why(4), 3);
    due("drop(3)", x.drop(3), 1);
    due("none does any more", x.why(4), -9);
    DOC.says("8: -1");
    due("why(5)", x.why(5), -1);
    due("why(-1)", x.why(-1), -1);
    due("why(least)", x.why(LEAST), -1);
    due("why(most)", x.why(MOST), -1);
    due("no line yet", new OnesDesk().why(0), -1);
    DOC.says("8: -3");
    due("TAKEN", x.why(0), -3);
    due("DROPPED", x.why(3), -3);
    due("drop(2)", x.drop(2), 1);
    due("DROPPED when LEFT", x.why(2), -3);
    due("again(4)", x.again(4), 1);
    due("TAKEN when LEFT", x.why(4), -3);
    DOC.refused(x, 4, 0, 4, 0, 0, 0);
    due("none is told by it", x.count(1), 5);
  }

  private static void sparesOfTakenLines() {
    DOC.says("24: Whether the GOOD ROWS would be the same without a TAKEN LINE: 1");
    for (int n = 1; n <= 8; n++) {
      OnesDesk x = DOC.desk(n, 0, 1, Sentences.full(n));
      for (int line = 0; line < 3; line++) due("none, one, all", x.spare(line), 1);
    }
    due("told twice, the first", DOC.desk(3, 3, 3).spare(0), 1);
    due("told twice, the second", DOC.desk(3, 3, 3).spare(1), 1);
    due("it follows", DOC.desk(4, 3, 6, 7).spare(2), 1);
    due("of two columns", DOC.desk(2, 3).spare(0), 1);
    DOC.says("24: 0");
    due("the only one", DOC.desk(3, 3).spare(0), 0);
    due("others follow from it", DOC.desk(4, 3, 6, 7).spare(0), 0);
    OnesDesk x = DOC.inOneOrder(8);
    for (int line = 0; line < 7; line++) due("each is needed", x.spare(line), 0);
    DOC.fillUp(x, 39);
    due("line(3)", x.line(3), 39);
    due("the last of 40", x.spare(39), 1);
    due("the first", x.spare(0), 1);
    due("the second", x.spare(1), 0);
    due("none is DROPPED by it", x.count(2), 40);
    due("rows", x.rows(), 2);
  }

  private static void spareRefusals() {
    DOC.says("24: -1");
    OnesDesk x = DOC.desk(3, 3, 6, 5);
    due("spare(3)", x.spare(3), -1);
    due("spare(-1)", x.spare(-1), -1);
    due("spare(least)", x.spare(LEAST), -1);
    due("spare(most)", x.spare(MOST), -1);
    due("no line yet", new OnesDesk().spare(0), -1);
    DOC.says("24: -3");
    due("LEFT", x.spare(2), -3);
    due("drop(1)", x.drop(1), 1);
    due("DROPPED", x.spare(1), -3);
    due("again(2)", x.again(2), 1);
    due("TAKEN now", x.spare(2), 0);
    DOC.refused(x, 4, 0, 2, 0, 0, 0);
  }

  private static void counts() {
    DOC.says("25: 0 COLUMNS, 1 LINES, 2 TAKEN, 3 LEFT, 4 DROPPED ones");
    OnesDesk x = DOC.desk(8);
    int[] none = {8, 0, 0, 0, 0};
    for (int what = 0; what <= 4; what++) due("no line yet", x.count(what), none[what]);
    x = DOC.inOneOrder(8);
    for (int i = 7; i < 40; i++) due("line(5)", x.line(5), i);
    int[] all = {8, 40, 7, 33, 0};
    for (int what = 0; what <= 4; what++) due("all 40", x.count(what), all[what]);
    for (int i = 0; i < 40; i++) due("drop", x.drop(i), 1);
    int[] dropped = {8, 40, 0, 0, 40};
    for (int what = 0; what <= 4; what++) due("all DROPPED", x.count(what), dropped[what]);
    DOC.says("25: -9 for another what");
    for (int what : new int[] {LEAST, -11, -9, -1, 5, 6, 9, 10, 17, 18, MOST}) {
      due("count(" + what + ")", x.count(what), -9);
    }
    DOC.refused(x, 0, 0, 0, 0, 0, 0);
  }

  private static void countsOfRefusals() {
    DOC.says("25: 11 .. 16 REFUSALS -1 .. -6");
    OnesDesk x = DOC.desk(3, 3, 6, 5);
    DOC.refused(x, 0, 0, 0, 0, 0, 0);
    due("-1", x.drop(3), -1);
    DOC.refused(x, 1, 0, 0, 0, 0, 0);
    due("-2", x.line(8), -2);
    DOC.refused(x, 1, 1, 0, 0, 0, 0);
    due("-3", x.again(0), -3);
    DOC.refused(x, 1, 1, 1, 0, 0, 0);
    due("-4", x.weight(0, -1), -4);
    DOC.refused(x, 1, 1, 1, 1, 0, 0);
    due("-6", x.weight(0, 101), -6);
    DOC.refused(x, 1, 1, 1, 1, 0, 1);
    DOC.says("25: what is answered -9 is no REFUSAL");
    due("rank", x.rank(0), -9);
    due("the highest knot's above", x.knot(x.knots() - 1, 3), -9);
    due("count", x.count(5), -9);
    due("drop(0)", x.drop(0), 1);
    due("why", x.why(2), -9);
    DOC.refused(x, 1, 1, 1, 1, 0, 1);
    DOC.says("25: REFUSALS of a table before are still counted");
    due("table(1)", x.table(1), 1);
    DOC.refused(x, 1, 1, 1, 1, 0, 1);
  }
}
