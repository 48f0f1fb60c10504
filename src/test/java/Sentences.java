/**
 * Checks that stand under the sentence of the document they belong to, so that a failing one names
 * what was broken; a sentence under which nothing was checked is a fault of the test.
 */
final class Sentences {
  static final int LEAST = Integer.MIN_VALUE;
  static final int MOST = Integer.MAX_VALUE;
  /** How many rows 0 to 8 columns have. */
  static final int[] ORDERS = {1, 1, 2, 6, 24, 120, 720, 5040, 40320};

  private final Checks checks = new Checks();
  private String sentence = "";
  private int under = 1;

  void says(String next) {
    checks.holds("something is checked under: " + sentence, under > 0);
    sentence = next;
    under = 0;
  }

  void due(String call, int got, int want) {
    under++;
    checks.due(sentence + " | " + call, got, want);
  }

  void end() {
    says("the end");
    checks.end();
  }

  static int full(int n) {
    return (1 << n) - 1;
  }

  /** A desk with a table of n columns on which these lines were told. */
  OnesDesk desk(int n, int... sets) {
    OnesDesk x = new OnesDesk();
    due("table(" + n + ")", x.table(n), 1);
    for (int i = 0; i < sets.length; i++) due("line(" + sets[i] + ")", x.line(sets[i]), i);
    return x;
  }

  /** Lines 0 to n - 2 are neighbours, so only 0 1 2 .. and that row turned about are GOOD. */
  OnesDesk inOneOrder(int n) {
    OnesDesk x = desk(n);
    for (int i = 0; i + 1 < n; i++) due("line of neighbours", x.line(3 << i), i);
    return x;
  }

  /** Tells empty lines until there are so many in all. */
  void fillUp(OnesDesk x, int upTo) {
    for (int i = x.count(1); i < upTo; i++) due("line(0)", x.line(0), i);
  }

  /** The refusals -1, -2, -3, -4, -5, -6 that count tells. */
  void refused(OnesDesk x, int... want) {
    for (int i = 0; i < 6; i++) due("count(" + (11 + i) + ")", x.count(11 + i), want[i]);
  }

  void rowIs(OnesDesk x, int i, int... columns) {
    for (int p = 0; p < columns.length; p++) {
      due("row(" + i + ", " + p + ")", x.row(i, p), columns[p]);
    }
  }

  /** States of lines 0, 1, ..: 0 TAKEN, 1 LEFT, 2 DROPPED. */
  void statesAre(OnesDesk x, int... states) {
    for (int i = 0; i < states.length; i++) due("state of " + i, x.lineOf(i, 1), states[i]);
    due("lines", x.count(1), states.length);
  }
}
