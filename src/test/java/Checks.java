/** Counts the calls whose answer is not the one that is due, and prints them. */
final class Checks {
  private int made = 0;
  private int wrong = 0;

  void due(String call, long got, long want) {
    made++;
    if (got != want) {
      wrong++;
      if (wrong <= 50) System.out.println(call + " answered " + got + ", due is " + want);
    }
  }

  void holds(String what, boolean so) {
    made++;
    if (!so) {
      wrong++;
      System.out.println("does not hold: " + what);
    }
  }

  int wrong() {
    return wrong;
  }

  void end() {
    System.out.println(made + " answers, " + wrong + " of them not as due");
    if (wrong != 0 || made == 0) System.exit(1);
  }
}
