import java.util.Random;

/** Long runs of mixed calls, right and wrong ones, on a desk and on its plain twin. */
public final class ModelTest {
  private static final int[] ODD = {Integer.MIN_VALUE, -256, -9, -4, -1, 0, 1, 7, 8, 9, 40, 41, 100,
      101, 255, 256, 40319, 40320, Integer.MAX_VALUE};
  /** askCounts makes so many calls. */
  private static final int COUNTS = 21;
  /** ask makes so many at most. */
  private static final int MOST_ASKED = 6 + COUNTS;
  private static final Checks CHECKS = new Checks();

  private final Random random;
  private final Twins twins = new Twins(CHECKS);
  private final PlainDesk plain = twins.plain;
  /** Lines made of neighbours in this order are mostly TAKEN. */
  private int[] order = {0};

  private ModelTest(long seed) {
    random = new Random(seed);
  }

  public static void main(String[] args) {
    for (int seed = 1; seed <= 1200 && CHECKS.wrong() == 0; seed++) {
      new ModelTest(seed).run(1 + seed % 8);
    }
    for (int seed = 2001; seed <= 2400 && CHECKS.wrong() == 0; seed++) {
      new ModelTest(seed).run(3 + seed % 5);
    }
    CHECKS.end();
  }

  private void run(int n) {
    int before = CHECKS.wrong();
    // Some runs ask seldom, so that many lines are told before the calls are used up.
    int askedOf = 2 + random.nextInt(6);
    start(n);
    while (twins.callsLeft() >= MOST_ASKED + COUNTS && CHECKS.wrong() == before) {
      if (random.nextInt(200) == 0) start(1 + random.nextInt(n));
      else if (random.nextInt(askedOf) == 0) ask();
      else change();
    }
    askCounts();
    while (twins.callsLeft() > 0 && CHECKS.wrong() == before) change();
    if (CHECKS.wrong() != before) System.out.println("after:" + twins.story());
  }

  private void start(int n) {
    twins.table(n);
    order = new int[n];
    for (int i = 0; i < n; i++) {
      int j = random.nextInt(i + 1);
      order[i] = order[j];
      order[j] = i;
    }
  }

  private int odd() {
    return ODD[random.nextInt(ODD.length)];
  }

  private int some(int bound) {
    return random.nextInt(25) == 0 ? odd() : random.nextInt(Math.max(1, bound));
  }

  private int column() {
    return random.nextInt(25) == 0 ? order.length : some(order.length);
  }

  private int line() {
    return some(plain.count(1));
  }

  private int set() {
    if (random.nextInt(25) == 0) return odd();
    if (random.nextInt(3) == 0) return random.nextInt(1 << order.length);
    int from = random.nextInt(order.length);
    int to = from + random.nextInt(order.length - from);
    int set = 0;
    for (int p = from; p <= to; p++) set |= 1 << order[p];
    return set;
  }

  private int packedRow() {
    int kind = random.nextInt(4);
    if (kind == 0) return some(1 << 4 * Math.min(order.length, 7));
    int i = random.nextInt(plain.rows());
    int row = 0;
    for (int p = 0; p < order.length; p++) row = row << 4 | plain.row(i, p);
    if (kind == 1) row ^= 1 << random.nextInt(32);
    return row;
  }

  private void change() {
    int kind = random.nextInt(10);
    if (kind < 4) twins.line(set());
    else if (kind < 6) twins.drop(line());
    else if (kind < 8) twins.again(line());
    else {
      int line = line();
      int small = random.nextBoolean() ? 5 : 101;
      twins.weight(line, random.nextInt(4) == 0 ? odd() : random.nextInt(small));
    }
  }

  private void ask() {
    if (random.nextInt(4) == 0) askOfLines();
    else if (random.nextInt(3) == 0) askOfKnots();
    else if (random.nextBoolean()) askOfRows();
    else askOfColumns();
    if (random.nextInt(10) == 0) askCounts();
  }

  private void askOfLines() {
    int line = line();
    twins.lineOf(line, some(4));
    twins.why(line);
    twins.spare(line);
  }

  private void askOfRows() {
    twins.rows();
    int i = some(plain.rows() + 1);
    twins.row(i, column());
    twins.rank(packedRow());
    twins.gaps(i);
    twins.best();
    twins.within(random.nextInt(10) == 0 ? odd()
        : plain.gaps(random.nextInt(plain.rows())) + random.nextInt(3) - 1);
  }

  private void askOfColumns() {
    int a = column();
    int b = column();
    int set = set();
    twins.together(set);
    twins.round(set);
    twins.between(a, b, column());
    twins.next(a, b);
    twins.ends(a);
    twins.apart(a, b, random.nextBoolean());
  }

  private void askOfKnots() {
    twins.knots();
    twins.knot(random.nextBoolean() ? plain.knots() - 1 : some(plain.knots() + 1), some(9));
    twins.join(column(), column());
  }

  private void askCounts() {
    for (int what = -1; what <= 18; what++) twins.count(what);
    twins.count(odd());
  }
}
