import java.util.ArrayList;
import java.util.List;
import java.util.Map;

/**
 * Every call that can be refused, at its first values outside on either side and far outside, on
 * desks of one and of 8 columns, with no line and with all 40: the number of the refusal, that
 * nothing else changes by it, and what count tells afterwards. So too the calls that are not
 * refused: what only asks changes nothing, and counts no refusal.
 */
public final class RefusalTest {
  private static final int LEAST = Integer.MIN_VALUE;
  private static final int MOST = Integer.MAX_VALUE;
  private static final int TIMES = 3;
  private static final Checks CHECKS = new Checks();

  private interface Call {
    int on(OnesDesk x);
  }

  /** Tells a fresh desk all that brings it to where the calls are tried. */
  private interface Setting {
    void on(OnesDesk x);
  }

  private record Try(String name, Call call, int want, boolean refused) {}

  private final String name;
  private final Setting setting;
  private final List<Try> tries = new ArrayList<>();
  private final OnesDesk seen;
  private final int columns;
  private final int lines;

  private RefusalTest(String name, Setting setting) {
    this.name = name;
    this.setting = setting;
    seen = fresh();
    columns = seen.count(0);
    lines = seen.count(1);
  }

  public static void main(String[] args) {
    new RefusalTest("a new object", x -> { }).run();
    new RefusalTest("one column, 40 lines", RefusalTest::oneColumnAllLines).run();
    new RefusalTest("two columns", x -> x.table(2)).run();
    new RefusalTest("four columns, lines of each state", RefusalTest::fourColumns).run();
    new RefusalTest("8 columns, no line", x -> x.table(8)).run();
    new RefusalTest("8 columns, 39 lines", x -> eightColumns(x, 39)).run();
    new RefusalTest("8 columns, 40 lines", x -> eightColumns(x, 40)).run();
    CHECKS.end();
  }

  private static void oneColumnAllLines(OnesDesk x) {
    for (int i = 0; i < 40; i++) x.line(i % 2);
    x.drop(0);
    x.drop(39);
    x.weight(7, 100);
  }

  private static void fourColumns(OnesDesk x) {
    x.table(4);
    for (int set : new int[] {3, 6, 5, 12, 9, 15, 0}) x.line(set);
    x.drop(3);
    x.drop(4);
    x.weight(2, 50);
  }

  /** TAKEN, LEFT and DROPPED lines at both ends of the numbers, and of weights 0, 1 and 100. */
  private static void eightColumns(OnesDesk x, int upTo) {
    x.table(8);
    for (int set : new int[] {3, 5, 9, 6, 7, 48, 112, 240, 136, 255, 0, 160}) x.line(set);
    for (int i = 12; i < upTo; i++) x.line(i % 3 == 0 ? 129 : i % 3 == 1 ? 195 : 90);
    x.drop(5);
    x.drop(12);
    x.drop(upTo - 1);
    x.weight(2, 100);
    x.weight(3, 0);
  }

  private OnesDesk fresh() {
    OnesDesk x = new OnesDesk();
    setting.on(x);
    return x;
  }

  private void run() {
    tryTables();
    tryLines();
    tryStates();
    tryWeights();
    tryRows();
    trySets();
    tryColumns();
    tryKnots();
    tryWhatIsNotRefused();
    Sight before = new Sight(fresh());
    for (Try one : tries) {
      OnesDesk x = fresh();
      String call = name + " | " + one.name;
      for (int i = 0; i < TIMES; i++) CHECKS.due(call, one.call.on(x), one.want);
      Sight after = new Sight(x);
      compare(call, before, after, one.refused ? -1 - one.want : -1);
    }
  }

  private static void compare(String call, Sight before, Sight after, int raised) {
    for (int i = 0; i < 6; i++) {
      int want = before.refusals[i] + (i == raised ? TIMES : 0);
      CHECKS.due(call + " " + TIMES + " times, then count(" + (11 + i) + ")",
          after.refusals[i], want);
    }
    CHECKS.due(call + ", then how much there is to see", after.shown.size(), before.shown.size());
    for (Map.Entry<String, Integer> entry : before.shown.entrySet()) {
      int now = after.shown.getOrDefault(entry.getKey(), LEAST);
      CHECKS.due(call + ", then " + entry.getKey(), now, entry.getValue());
    }
  }

  private void refused(String call, int want, Call made) {
    tries.add(new Try(call, made, want, true));
  }

  /** Asks only; what is due is what a desk in this setting answers, which other tests look at. */
  private void asks(String call, Call made) {
    tries.add(new Try(call, made, made.on(fresh()), false));
  }

  private int[] noLines() {
    return new int[] {LEAST, -1, lines, lines + 1, 40, 41, MOST};
  }

  private int[] noSets() {
    int first = 1 << columns;
    return new int[] {LEAST, -1, -first, first, first + 1, 2 * first - 1, 256, 1 << 30, MOST};
  }

  private int[] noColumns() {
    return new int[] {LEAST, -1, columns, columns + 1, 8, 31, 32, MOST};
  }

  private void tryTables() {
    for (int n : new int[] {LEAST, -8, -1, 0}) refused("table(" + n + ")", -4, x -> x.table(n));
    for (int n : new int[] {9, 10, 32, MOST}) refused("table(" + n + ")", -6, x -> x.table(n));
  }

  private void tryLines() {
    for (int set : noSets()) refused("line(" + set + ")", -2, x -> x.line(set));
    if (lines == 40) {
      for (int set : new int[] {0, 1, (1 << columns) - 1}) {
        refused("line(" + set + ")", -6, x -> x.line(set));
      }
    }
    for (int i : noLines()) {
      for (int what : new int[] {LEAST, -1, 0, 3, 4, MOST}) {
        refused("lineOf(" + i + ", " + what + ")", -1, x -> x.lineOf(i, what));
      }
    }
    for (int i = 0; i < lines; i++) {
      int line = i;
      for (int what : new int[] {LEAST, -1, 4, MOST}) {
        refused("lineOf(" + line + ", " + what + ")", -2, x -> x.lineOf(line, what));
      }
    }
  }

  private void tryStates() {
    for (int i : noLines()) {
      refused("drop(" + i + ")", -1, x -> x.drop(i));
      refused("again(" + i + ")", -1, x -> x.again(i));
      refused("why(" + i + ")", -1, x -> x.why(i));
      refused("spare(" + i + ")", -1, x -> x.spare(i));
    }
    for (int i = 0; i < lines; i++) {
      int line = i;
      int state = seen.lineOf(i, 1);
      if (state == 2) refused("drop(" + line + ")", -3, x -> x.drop(line));
      if (state == 0) refused("again(" + line + ")", -3, x -> x.again(line));
      if (state != 1) refused("why(" + line + ")", -3, x -> x.why(line));
      if (state != 0) refused("spare(" + line + ")", -3, x -> x.spare(line));
      if (state == 1) asks("why(" + line + ")", x -> x.why(line));
      if (state == 0) asks("spare(" + line + ")", x -> x.spare(line));
    }
  }

  private void tryWeights() {
    for (int i : noLines()) {
      for (int w : new int[] {LEAST, -1, 0, 1, 100, 101, MOST}) {
        refused("weight(" + i + ", " + w + ")", -1, x -> x.weight(i, w));
      }
    }
    for (int i = 0; i < lines; i++) {
      int line = i;
      for (int w : new int[] {LEAST, -100, -1}) {
        refused("weight(" + line + ", " + w + ")", -4, x -> x.weight(line, w));
      }
      for (int w : new int[] {101, 256, MOST}) {
        refused("weight(" + line + ", " + w + ")", -6, x -> x.weight(line, w));
      }
    }
  }

  private void tryRows() {
    int rows = seen.rows();
    for (int i : new int[] {LEAST, -1, rows, rows + 1, 40320, MOST}) {
      for (int p : new int[] {LEAST, -1, 0, columns - 1, columns, MOST}) {
        refused("row(" + i + ", " + p + ")", -1, x -> x.row(i, p));
      }
      refused("gaps(" + i + ")", -1, x -> x.gaps(i));
    }
    for (int i : new int[] {0, rows - 1}) {
      for (int p : new int[] {LEAST, -1}) {
        refused("row(" + i + ", " + p + ")", -4, x -> x.row(i, p));
      }
      for (int p : new int[] {columns, columns + 1, 8, MOST}) {
        refused("row(" + i + ", " + p + ")", -6, x -> x.row(i, p));
      }
      asks("row(" + i + ", 0)", x -> x.row(i, 0));
      asks("gaps(" + i + ")", x -> x.gaps(i));
    }
  }

  private void trySets() {
    for (int set : noSets()) {
      refused("together(" + set + ")", -2, x -> x.together(set));
      refused("round(" + set + ")", -2, x -> x.round(set));
    }
    int full = (1 << columns) - 1;
    for (int set : new int[] {0, 1, full / 3, full & ~1, full}) {
      asks("together(" + set + ")", x -> x.together(set));
      asks("round(" + set + ")", x -> x.round(set));
    }
  }

  private void tryColumns() {
    int last = columns - 1;
    for (int no : noColumns()) {
      refused("ends(" + no + ")", -1, x -> x.ends(no));
      refused("between(" + no + ", 0, 1)", -1, x -> x.between(no, 0, 1));
      refused("between(0, " + no + ", 1)", -1, x -> x.between(0, no, 1));
      refused("between(0, 1, " + no + ")", -1, x -> x.between(0, 1, no));
      tryTwo(no, 0);
      tryTwo(no, last);
      tryTwo(0, no);
      tryTwo(no, no);
      refused("join(" + no + ", 0)", -1, x -> x.join(no, 0));
      refused("join(0, " + no + ")", -1, x -> x.join(0, no));
      refused("join(" + no + ", " + no + ")", -1, x -> x.join(no, no));
    }
    for (int a = 0; a < columns; a++) {
      int one = a;
      int other = (a + 1) % columns;
      tryTwo(one, one);
      refused("between(a, a, b)", -1, x -> x.between(one, one, other));
      refused("between(a, b, a)", -1, x -> x.between(one, other, one));
      refused("between(b, a, a)", -1, x -> x.between(other, one, one));
      refused("between(a, a, a)", -1, x -> x.between(one, one, one));
      asks("ends(" + one + ")", x -> x.ends(one));
      asks("join(" + one + ", " + other + ")", x -> x.join(one, other));
      asks("next(" + one + ", 0)", x -> one == 0 ? 0 : x.next(one, 0));
      asks("apart(" + one + ", 0, false)", x -> one == 0 ? 0 : x.apart(one, 0, false));
      asks("between(" + one + ", 0, 1)", x -> one < 2 ? 0 : x.between(one, 0, 1));
    }
  }

  private void tryTwo(int a, int b) {
    refused("next(" + a + ", " + b + ")", -1, x -> x.next(a, b));
    refused("apart(" + a + ", " + b + ", true)", -1, x -> x.apart(a, b, true));
    refused("apart(" + a + ", " + b + ", false)", -1, x -> x.apart(a, b, false));
  }

  private void tryKnots() {
    int knots = seen.knots();
    for (int k : new int[] {LEAST, -1, knots, knots + 1, 15, MOST}) {
      for (int what : new int[] {LEAST, -1, 0, 3, 4, MOST}) {
        refused("knot(" + k + ", " + what + ")", -1, x -> x.knot(k, what));
      }
    }
    for (int i = 0; i < knots; i++) {
      int k = i;
      int parts = seen.knot(k, 2);
      for (int what : new int[] {LEAST, -1, 4 + parts, 5 + parts, MOST}) {
        refused("knot(" + k + ", " + what + ")", -2, x -> x.knot(k, what));
      }
      for (int what = 0; what < 4 + parts; what++) {
        int asked = what;
        asks("knot(" + k + ", " + asked + ")", x -> x.knot(k, asked));
      }
    }
  }

  private void tryWhatIsNotRefused() {
    asks("rows()", OnesDesk::rows);
    asks("knots()", OnesDesk::knots);
    asks("best()", OnesDesk::best);
    for (int any : new int[] {LEAST, -9, -1, 0, 1, 5, 10, 15, 17, 0x76543210, MOST}) {
      asks("rank(" + any + ")", x -> x.rank(any));
      asks("within(" + any + ")", x -> x.within(any));
      asks("count(" + any + ")", x -> x.count(any));
    }
  }
}
