/**
 * A desk and its plain twin: each call is made on both, and their answers are compared. What was
 * called is kept, so that a wrong answer can be told with all calls that led to it.
 */
final class Twins {
  /** What a desk answers after its 512th call is free. */
  static final int MOST_CALLS = 512;

  final PlainDesk plain = new PlainDesk();
  private final OnesDesk desk = new OnesDesk();
  private final Checks checks;
  private final StringBuilder story = new StringBuilder();
  private int calls = 0;

  Twins(Checks checks) {
    this.checks = checks;
  }

  int callsLeft() {
    return MOST_CALLS - calls;
  }

  String story() {
    return story.toString();
  }

  private void due(String call, int got, int want) {
    calls++;
    if (calls > MOST_CALLS) throw new IllegalStateException("a desk of " + calls + " calls");
    checks.due(call, got, want);
    story.append(' ').append(call);
  }

  void table(int n) {
    due("table(" + n + ")", desk.table(n), plain.table(n));
  }

  void line(int set) {
    due("line(" + set + ")", desk.line(set), plain.line(set));
  }

  void drop(int line) {
    due("drop(" + line + ")", desk.drop(line), plain.drop(line));
  }

  void again(int line) {
    due("again(" + line + ")", desk.again(line), plain.again(line));
  }

  void weight(int line, int w) {
    due("weight(" + line + ", " + w + ")", desk.weight(line, w), plain.weight(line, w));
  }

  void lineOf(int line, int what) {
    due("lineOf(" + line + ", " + what + ")", desk.lineOf(line, what), plain.lineOf(line, what));
  }

  void why(int line) {
    due("why(" + line + ")", desk.why(line), plain.why(line));
  }

  void rows() {
    due("rows()", desk.rows(), plain.rows());
  }

  void row(int i, int place) {
    due("row(" + i + ", " + place + ")", desk.row(i, place), plain.row(i, place));
  }

  void rank(int row) {
    due("rank(" + row + ")", desk.rank(row), plain.rank(row));
  }

  void together(int set) {
    due("together(" + set + ")", desk.together(set), plain.together(set));
  }

  void round(int set) {
    due("round(" + set + ")", desk.round(set), plain.round(set));
  }

  void between(int a, int b, int c) {
    due("between(" + a + ", " + b + ", " + c + ")", desk.between(a, b, c), plain.between(a, b, c));
  }

  void next(int a, int b) {
    due("next(" + a + ", " + b + ")", desk.next(a, b), plain.next(a, b));
  }

  void ends(int a) {
    due("ends(" + a + ")", desk.ends(a), plain.ends(a));
  }

  void apart(int a, int b, boolean least) {
    due("apart(" + a + ", " + b + ", " + least + ")", desk.apart(a, b, least),
        plain.apart(a, b, least));
  }

  void knots() {
    due("knots()", desk.knots(), plain.knots());
  }

  void knot(int k, int what) {
    due("knot(" + k + ", " + what + ")", desk.knot(k, what), plain.knot(k, what));
  }

  void join(int a, int b) {
    due("join(" + a + ", " + b + ")", desk.join(a, b), plain.join(a, b));
  }

  void gaps(int i) {
    due("gaps(" + i + ")", desk.gaps(i), plain.gaps(i));
  }

  void best() {
    due("best()", desk.best(), plain.best());
  }

  void within(int gaps) {
    due("within(" + gaps + ")", desk.within(gaps), plain.within(gaps));
  }

  void spare(int line) {
    due("spare(" + line + ")", desk.spare(line), plain.spare(line));
  }

  void count(int what) {
    due("count(" + what + ")", desk.count(what), plain.count(what));
  }
}
