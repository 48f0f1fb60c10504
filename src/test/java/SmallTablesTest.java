import java.util.ArrayList;
import java.util.Collections;
import java.util.List;

/**
 * Nothing left to chance in small tables: every choice of lines in tables of 1 to 4 columns (told in
 * the order of their bits, and the other way round), and of up to three in one of 5, with every
 * question on a desk and on its plain twin.
 */
public final class SmallTablesTest {
  private static final Checks CHECKS = new Checks();

  private final int n;
  /** The sets told, line 0 first. */
  private final List<Integer> told;
  private Twins twins;

  private SmallTablesTest(int n, List<Integer> told) {
    this.n = n;
    this.told = told;
    newDesk();
  }

  public static void main(String[] args) {
    for (int n = 1; n <= 4; n++) {
      List<Integer> sets = setsOfTwoOrMore(n);
      for (int choice = 0; choice < 1 << sets.size(); choice++) {
        List<Integer> told = chosen(sets, choice);
        everyQuestion(n, told);
        Collections.reverse(told);
        everyQuestion(n, told);
      }
    }
    upToThree(5);
    CHECKS.end();
  }

  private static List<Integer> setsOfTwoOrMore(int n) {
    List<Integer> sets = new ArrayList<>();
    for (int set = 0; set < 1 << n; set++) if (Integer.bitCount(set) >= 2) sets.add(set);
    return sets;
  }

  private static List<Integer> chosen(List<Integer> sets, int choice) {
    List<Integer> out = new ArrayList<>();
    for (int i = 0; i < sets.size(); i++) if ((choice >> i & 1) == 1) out.add(sets.get(i));
    return out;
  }

  private static void upToThree(int n) {
    List<Integer> sets = setsOfTwoOrMore(n);
    for (int i = 0; i < sets.size(); i++) {
      for (int j = 0; j <= i; j++) {
        for (int k = 0; k <= j; k++) {
          // A set told again is as good as one fewer.
          everyQuestion(n, List.of(sets.get(i), sets.get(j), sets.get(k)));
        }
      }
    }
  }

  private static void everyQuestion(int n, List<Integer> told) {
    if (CHECKS.wrong() > 0) return;
    SmallTablesTest it = new SmallTablesTest(n, told);
    it.askOfLines();
    it.askOfRows();
    it.askOfRanks(0, 0, 0);
    it.askOfColumns();
    it.askOfKnots();
    for (int line = 0; line < told.size(); line++) it.dropAndTellAgain(line);
    if (CHECKS.wrong() > 0) System.out.println("after:" + it.twins.story());
  }

  private void newDesk() {
    twins = new Twins(CHECKS);
    twins.table(n);
    for (int set : told) twins.line(set);
    for (int line = 0; line < told.size(); line++) twins.weight(line, line * 7 % 5);
  }

  /** Goes on with a new desk if this one has not so many calls left. */
  private void room(int calls) {
    if (twins.callsLeft() < calls) newDesk();
  }

  private void askOfLines() {
    for (int line = -1; line <= told.size(); line++) {
      room(8);
      for (int what = -1; what <= 4; what++) twins.lineOf(line, what);
      twins.why(line);
      twins.spare(line);
    }
    room(20);
    for (int what = -1; what <= 18; what++) twins.count(what);
  }

  private void askOfRows() {
    twins.rows();
    int rows = twins.plain.rows();
    int most = 0;
    for (int i = -1; i <= rows; i++) {
      room(n + 4);
      int row = 0;
      for (int place = -1; place <= n; place++) {
        twins.row(i, place);
        boolean there = i >= 0 && i < rows && place >= 0 && place < n;
        if (there) row = row << 4 | twins.plain.row(i, place);
      }
      twins.rank(row);
      twins.gaps(i);
      if (i >= 0 && i < rows) most = Math.max(most, twins.plain.gaps(i));
    }
    room(1);
    twins.best();
    for (int gaps = -1; gaps <= most + 1; gaps++) {
      room(1);
      twins.within(gaps);
    }
  }

  /** Of every order of all columns; in the smallest tables of what is no order, too. */
  private void askOfRanks(int row, int place, int used) {
    if (place == n) {
      room(2);
      twins.rank(row);
      twins.rank(row | 1 << 4 * n);
      return;
    }
    for (int column = 0; column <= n; column++) {
      boolean fits = column < n && (used >> column & 1) == 0;
      if (fits || n < 4) askOfRanks(row << 4 | column, place + 1, used | 1 << column);
    }
  }

  private void askOfColumns() {
    for (int set = -1; set <= 1 << n; set++) {
      room(2);
      twins.together(set);
      twins.round(set);
    }
    for (int a = -1; a <= n; a++) {
      room(1);
      twins.ends(a);
      for (int b = -1; b <= n; b++) {
        room(n + 5);
        twins.next(a, b);
        twins.apart(a, b, true);
        twins.apart(a, b, false);
        for (int c = -1; c <= n; c++) twins.between(a, b, c);
      }
    }
  }

  private void askOfKnots() {
    room(1);
    twins.knots();
    for (int k = -1; k <= twins.plain.knots(); k++) {
      room(n + 6);
      for (int what = -1; what <= n + 4; what++) twins.knot(k, what);
    }
    for (int a = -1; a <= n; a++) {
      room(n + 2);
      for (int b = -1; b <= n; b++) twins.join(a, b);
    }
  }

  /** The other lines stay as they are; a LEFT one among them may have none that bars it any more. */
  private void dropAndTellAgain(int dropped) {
    newDesk();
    twins.drop(dropped);
    askInShort();
    for (int line = 0; line < told.size(); line++) twins.again(line);
    askInShort();
  }

  private void askInShort() {
    for (int line = 0; line < told.size(); line++) {
      twins.lineOf(line, 1);
      twins.why(line);
      twins.spare(line);
    }
    twins.rows();
    twins.row(0, 0);
    twins.best();
    twins.gaps(twins.plain.rows() - 1);
    twins.knots();
    for (int k = 0; k < twins.plain.knots(); k++) {
      for (int what = 0; what < 5; what++) twins.knot(k, what);
    }
    twins.apart(0, n - 1, false);
  }
}
