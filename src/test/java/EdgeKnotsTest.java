/** The boundary cases of the promises on knots: 18 to 20. */
public final class EdgeKnotsTest {
  private static final int LEAST = Sentences.LEAST;
  private static final int MOST = Sentences.MOST;
  private static final Sentences DOC = new Sentences();

  public static void main(String[] args) {
    howMany();
    setsOfKnots();
    kindsByParts();
    knotsAbove();
    parts();
    noSuchKnot();
    noSuchWhat();
    joins();
    joinRefusals();
    DOC.end();
  }

  private static void due(String call, int got, int want) {
    DOC.due(call, got, want);
  }

  /** Lines {0 1}, {0 1 2}, ..: as many knots as n columns can have. */
  private static OnesDesk nested(int n) {
    OnesDesk x = DOC.desk(n);
    for (int many = 2; many <= n; many++) due("line", x.line(Sentences.full(many)), many - 2);
    return x;
  }

  private static void howMany() {
    DOC.says("18: How many KNOTS");
    due("of a new object", new OnesDesk().knots(), 1);
    for (int n = 2; n <= 8; n++) {
      due("no line yet", DOC.desk(n).knots(), n + 1);
      due("in one order", DOC.inOneOrder(n).knots(), n + 1);
      due("the most", nested(n).knots(), 2 * n - 1);
    }
    OnesDesk x = nested(8);
    for (int line = 0; line < 6; line++) {
      due("drop", x.drop(line), 1);
      due("one fewer", x.knots(), 14 - line);
    }
    due("drop the line of all", x.drop(6), 1);
    due("it was none", x.knots(), 9);
  }

  private static void setsOfKnots() {
    DOC.says("19: 0 its SET");
    for (int n = 1; n <= 8; n++) {
      OnesDesk x = nested(n);
      for (int k = 0; k < n; k++) due("a column", x.knot(k, 0), 1 << k);
      for (int k = n; k < 2 * n - 1; k++) due("more", x.knot(k, 0), Sentences.full(k - n + 2));
    }
  }

  private static void kindsByParts() {
    DOC.says("19: 1 KIND, 2 how many PARTS");
    for (int n = 1; n <= 8; n++) {
      OnesDesk free = DOC.desk(n);
      OnesDesk fixed = DOC.inOneOrder(n);
      int top = n == 1 ? 0 : n;
      due("parts of all", free.knot(top, 2), n == 1 ? 0 : n);
      due("parts in one order", fixed.knot(top, 2), n == 1 ? 0 : n);
      due("kind of all", free.knot(top, 1), n == 1 ? 0 : n == 2 ? 1 : 2);
      due("kind in one order", fixed.knot(top, 1), n == 1 ? 0 : n == 2 ? 1 : 3);
      OnesDesk pairs = nested(n);
      for (int k = n; k < 2 * n - 1; k++) {
        due("a pair", pairs.knot(k, 1), 1);
        due("its parts", pairs.knot(k, 2), 2);
      }
    }
  }

  private static void knotsAbove() {
    DOC.says("19: 3 the KNOT of which it is a PART (-9)");
    due("of a new object", new OnesDesk().knot(0, 3), -9);
    OnesDesk x = nested(8);
    due("of all", x.knot(14, 3), -9);
    due("of the last but one", x.knot(13, 3), 14);
    due("of 0", x.knot(0, 3), 8);
    due("of 1", x.knot(1, 3), 8);
    due("of 2", x.knot(2, 3), 9);
    due("of 7", x.knot(7, 3), 14);
    DOC.refused(x, 0, 0, 0, 0, 0, 0);
  }

  private static void parts() {
    DOC.says("19: 4 + i PART i's number");
    OnesDesk x = DOC.desk(8, 192, 160, 144, 136, 132);
    // {7 6} and {7 5} are TAKEN: 5 7 6 is FIXED, the others are LEFT.
    due("LEFT", x.count(3), 3);
    due("knots", x.knots(), 10);
    due("the first part", x.knot(8, 4), 5);
    due("the midmost", x.knot(8, 5), 7);
    due("the last", x.knot(8, 6), 6);
    due("no more", x.knot(8, 7), -2);
    for (int i = 0; i < 5; i++) due("part of all", x.knot(9, 4 + i), i);
    due("the last part of all", x.knot(9, 9), 8);
    due("no more", x.knot(9, 10), -2);
    x = DOC.desk(8);
    for (int i = 0; i < 8; i++) due("part of 8", x.knot(8, 4 + i), i);
    due("no part 8", x.knot(8, 12), -2);
    x = nested(8);
    due("first part of a pair", x.knot(14, 4), 13);
    due("second part of a pair", x.knot(14, 5), 7);
    due("no third", x.knot(14, 6), -2);
  }

  private static void noSuchKnot() {
    DOC.says("19: -1");
    for (int n = 1; n <= 8; n++) {
      OnesDesk x = nested(n);
      int knots = 2 * n - 1;
      due("the last", x.knot(knots - 1, 0), Sentences.full(n));
      for (int k : new int[] {LEAST, -1, knots, MOST}) {
        for (int what : new int[] {LEAST, -1, 0, 3, 4, MOST}) {
          due("knot(" + k + ", " + what + ")", x.knot(k, what), -1);
        }
      }
      DOC.refused(x, 24, 0, 0, 0, 0, 0);
    }
  }

  private static void noSuchWhat() {
    DOC.says("19: -2");
    OnesDesk x = DOC.desk(8);
    for (int k : new int[] {0, 7, 8}) {
      due("what -1", x.knot(k, -1), -2);
      due("what least", x.knot(k, LEAST), -2);
      due("what most", x.knot(k, MOST), -2);
    }
    DOC.refused(x, 0, 9, 0, 0, 0, 0);
    DOC.says("19: -2 (no such PART, too)");
    due("of one column", x.knot(0, 4), -2);
    due("of all", x.knot(8, 12), -2);
    due("of a new object", new OnesDesk().knot(0, 4), -2);
    DOC.refused(x, 0, 11, 0, 0, 0, 0);
  }

  private static void joins() {
    DOC.says("20: The least KNOT in which two COLUMNS are");
    OnesDesk x = nested(8);
    for (int a = 0; a < 8; a++) {
      for (int b = 0; b < 8; b++) {
        int greater = Math.max(a, b);
        if (a != b) due("join(" + a + ", " + b + ")", x.join(a, b), 7 + greater);
      }
    }
    due("of two columns", DOC.desk(2).join(1, 0), 2);
    due("free", DOC.desk(8).join(0, 7), 8);
    due("in one order, neighbours", DOC.inOneOrder(8).join(0, 1), 8);
    DOC.says("20: (or one)");
    for (int n = 1; n <= 8; n++) {
      x = nested(n);
      for (int c = 0; c < n; c++) due("join(" + c + ", " + c + ")", x.join(c, c), c);
    }
  }

  private static void joinRefusals() {
    DOC.says("20: -1");
    for (int n = 1; n <= 8; n++) {
      OnesDesk x = DOC.desk(n);
      for (int no : new int[] {LEAST, -1, n, MOST}) {
        due("a", x.join(no, 0), -1);
        due("b", x.join(n - 1, no), -1);
        due("both", x.join(no, no), -1);
      }
      DOC.refused(x, 12, 0, 0, 0, 0, 0);
    }
  }
}
