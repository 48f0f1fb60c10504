import java.util.LinkedHashMap;
import java.util.Map;

/**
 * What a desk shows of its state, by the calls that show it, and how many refusals it told before.
 * Reading it takes at most 400 calls, so that a desk on which 100 were made is still in use.
 */
final class Sight {
  final Map<String, Integer> shown = new LinkedHashMap<>();
  final int[] refusals = new int[6];
  private final OnesDesk x;
  private int calls = 0;

  Sight(OnesDesk x) {
    this.x = x;
    // First of all: the questions below may be refused themselves.
    for (int i = 0; i < 6; i++) refusals[i] = x.count(11 + i);
    for (int what = 0; what <= 4; what++) put("count(" + what + ")", x.count(what));
    readLines(x.count(1));
    readRows(x.count(0), x.rows());
    readKnots(x.knots());
    readColumns(x.count(0));
    if (calls + 11 > 400) throw new IllegalStateException("a sight of " + calls + " calls");
  }

  private void put(String call, int answer) {
    calls++;
    shown.put(call, answer);
  }

  private void readLines(int lines) {
    for (int i = 0; i < lines; i++) {
      for (int what = 0; what < 3; what++) {
        put("lineOf(" + i + ", " + what + ")", x.lineOf(i, what));
      }
      put("why(" + i + ")", x.why(i));
      put("spare(" + i + ")", x.spare(i));
    }
  }

  private void readRows(int columns, int rows) {
    put("rows()", rows);
    for (int i : new int[] {0, rows / 3, rows - 1}) {
      for (int p = 0; p < columns; p++) put("row(" + i + ", " + p + ")", x.row(i, p));
      put("gaps(" + i + ")", x.gaps(i));
    }
    put("best()", x.best());
    for (int gaps : new int[] {-1, 0, 1, 50, 100}) put("within(" + gaps + ")", x.within(gaps));
  }

  private void readKnots(int knots) {
    put("knots()", knots);
    for (int k = 0; k < knots; k++) {
      for (int what = 0; what < 4; what++) put("knot(" + k + ", " + what + ")", x.knot(k, what));
    }
  }

  private void readColumns(int columns) {
    for (int a = 0; a < columns; a++) put("ends(" + a + ")", x.ends(a));
    for (int a = 1; a < columns; a++) put("next(0, " + a + ")", x.next(0, a));
    for (int from = 0; from + 2 <= columns; from++) {
      put("together(" + (3 << from) + ")", x.together(3 << from));
    }
  }
}
