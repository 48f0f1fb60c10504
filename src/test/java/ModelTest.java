import java.util.Random;

/** Long runs of mixed calls, right and wrong ones, on a desk and on its plain twin. */
public final class ModelTest {
  private static final int[] ODD = {Integer.MIN_VALUE, -256, -9, -4, -1, 0, 1, 7, 8, 9, 40, 41, 100,
      101, 255, 256, 40319, 40320, Integer.MAX_VALUE};
  /** What a desk answers after its 512th call is free. */
  private static final int MOST_CALLS = 512;
  /** askCounts makes so many. */
  private static final int COUNTS = 21;
  /** ask makes so many at most. */
  private static final int MOST_ASKED = 6 + COUNTS;
  private static final Checks CHECKS = new Checks();

  private final Random random;
  private final OnesDesk desk = new OnesDesk();
  private final PlainDesk plain = new PlainDesk();
  private final StringBuilder story = new StringBuilder();
  private int calls = 0;
  /** Lines made of neighbours in this order are mostly TAKEN. */
  private int[] order = {0};

  private ModelTest(long seed) {
    random = new Random(seed);
  }

  public static void main(String[] args) {
    for (int seed = 1; seed <= 1200 && CHECKS.wrong() == 0; seed++) {
      new ModelTest(seed).run(1 + seed % 8);
    }
    for (int seed = 2001; seed <= 2400 && CHECKS.wrong() == 0; seed++) {
      new ModelTest(seed).run(3 + seed % 5);
    }
    CHECKS.end();
  }

  private void run(int n) {
    int before = CHECKS.wrong();
    // Some runs ask seldom, so that many lines are told before the calls are used up.
    int askedOf = 2 + random.nextInt(6);
    start(n);
    while (calls + MOST_ASKED + COUNTS <= MOST_CALLS && CHECKS.wrong() == before) {
      if (random.nextInt(200) == 0) start(1 + random.nextInt(n));
      else if (random.nextInt(askedOf) == 0) ask();
      else change();
    }
    askCounts();
    while (calls < MOST_CALLS && CHECKS.wrong() == before) change();
    if (CHECKS.wrong() != before) System.out.println("after:" + story);
  }

  private void due(String call, int got, int want) {
    calls++;
    CHECKS.due(call, got, want);
    story.append(' ').append(call);
  }

  private void start(int n) {
    due("table(" + n + ")", desk.table(n), plain.table(n));
    order = new int[n];
    for (int i = 0; i < n; i++) {
      int j = random.nextInt(i + 1);
      order[i] = order[j];
      order[j] = i;
    }
  }

  private int odd() {
    return ODD[random.nextInt(ODD.length)];
  }

  private int some(int bound) {
    return random.nextInt(25) == 0 ? odd() : random.nextInt(Math.max(1, bound));
  }

  private int column() {
    return random.nextInt(25) == 0 ? order.length : some(order.length);
  }

  private int line() {
    return some(plain.count(1));
  }

  private int set() {
    if (random.nextInt(25) == 0) return odd();
    if (random.nextInt(3) == 0) return random.nextInt(1 << order.length);
    int from = random.nextInt(order.length);
    int to = from + random.nextInt(order.length - from);
    int set = 0;
    for (int p = from; p <= to; p++) set |= 1 << order[p];
    return set;
  }

  private int packedRow() {
    int kind = random.nextInt(4);
    if (kind == 0) return some(1 << 4 * Math.min(order.length, 7));
    int i = random.nextInt(plain.rows());
    int row = 0;
    for (int p = 0; p < order.length; p++) row = row << 4 | plain.row(i, p);
    if (kind == 1) row ^= 1 << random.nextInt(32);
    return row;
  }

  private void change() {
    int kind = random.nextInt(10);
    if (kind < 4) {
      int set = set();
      due("line(" + set + ")", desk.line(set), plain.line(set));
    } else if (kind < 6) {
      int line = line();
      due("drop(" + line + ")", desk.drop(line), plain.drop(line));
    } else if (kind < 8) {
      int line = line();
      due("again(" + line + ")", desk.again(line), plain.again(line));
    } else {
      int line = line();
      int w = random.nextInt(4) == 0 ? odd() : random.nextInt(random.nextBoolean() ? 5 : 101);
      due("weight(" + line + ", " + w + ")", desk.weight(line, w), plain.weight(line, w));
    }
  }

  private void ask() {
    if (random.nextInt(4) == 0) askOfLines();
    else if (random.nextInt(3) == 0) askOfKnots();
    else if (random.nextBoolean()) askOfRows();
    else askOfColumns();
    if (random.nextInt(10) == 0) askCounts();
  }

  private void askOfLines() {
    int line = line();
    int what = some(4);
    due("lineOf(" + line + ", " + what + ")", desk.lineOf(line, what), plain.lineOf(line, what));
    due("why(" + line + ")", desk.why(line), plain.why(line));
    due("spare(" + line + ")", desk.spare(line), plain.spare(line));
  }

  private void askOfRows() {
    due("rows()", desk.rows(), plain.rows());
    int i = some(plain.rows() + 1);
    int p = random.nextInt(25) == 0 ? order.length : some(order.length);
    due("row(" + i + ", " + p + ")", desk.row(i, p), plain.row(i, p));
    int row = packedRow();
    due("rank(" + row + ")", desk.rank(row), plain.rank(row));
    due("gaps(" + i + ")", desk.gaps(i), plain.gaps(i));
    due("best()", desk.best(), plain.best());
    int g = random.nextInt(10) == 0 ? odd()
        : plain.gaps(random.nextInt(plain.rows())) + random.nextInt(3) - 1;
    due("within(" + g + ")", desk.within(g), plain.within(g));
  }

  private void askOfColumns() {
    int a = column();
    int b = column();
    int c = column();
    int set = set();
    boolean least = random.nextBoolean();
    due("together(" + set + ")", desk.together(set), plain.together(set));
    due("round(" + set + ")", desk.round(set), plain.round(set));
    due("between(" + a + ", " + b + ", " + c + ")", desk.between(a, b, c), plain.between(a, b, c));
    due("next(" + a + ", " + b + ")", desk.next(a, b), plain.next(a, b));
    due("ends(" + a + ")", desk.ends(a), plain.ends(a));
    due("apart(" + a + ", " + b + ", " + least + ")", desk.apart(a, b, least),
        plain.apart(a, b, least));
  }

  private void askOfKnots() {
    due("knots()", desk.knots(), plain.knots());
    int k = random.nextBoolean() ? plain.knots() - 1 : some(plain.knots() + 1);
    int what = some(9);
    due("knot(" + k + ", " + what + ")", desk.knot(k, what), plain.knot(k, what));
    int a = column();
    int b = column();
    due("join(" + a + ", " + b + ")", desk.join(a, b), plain.join(a, b));
  }

  private void askCounts() {
    for (int what = -1; what <= 18; what++) {
      due("count(" + what + ")", desk.count(what), plain.count(what));
    }
    int what = odd();
    due("count(" + what + ")", desk.count(what), plain.count(what));
  }
}
