import java.util.ArrayList;
import java.util.HashSet;
import java.util.List;
import java.util.Set;

/**
 * The document said again by listing every row: slow, and written without a thought for the class
 * that is tested. Names and answers are those of OnesDesk.
 */
final class PlainDesk {
  private static final class Line {
    int set;
    int state; // 0 TAKEN, 1 LEFT, 2 DROPPED
    int weight = 1;
  }

  private int columns;
  private final List<Line> lines = new ArrayList<>();
  private final int[] refused = new int[7];
  private List<int[]> all = new ArrayList<>();
  private List<int[]> good = new ArrayList<>();
  private List<Integer> knots = null;
  private int[] gapsOfGood = null;

  PlainDesk() {
    start(1);
  }

  private void start(int n) {
    columns = n;
    lines.clear();
    all = new ArrayList<>();
    list(new int[n], 0, 0);
    change();
  }

  private void list(int[] row, int place, int used) {
    if (place == columns) {
      all.add(row.clone());
      return;
    }
    for (int c = 0; c < columns; c++) {
      if ((used & 1 << c) == 0) {
        row[place] = c;
        list(row, place + 1, used | 1 << c);
      }
    }
  }

  private void change() {
    good = filtered(all, takenBut(-1));
    knots = null;
    gapsOfGood = null;
  }

  private List<Integer> takenBut(int without) {
    List<Integer> sets = new ArrayList<>();
    for (int i = 0; i < lines.size(); i++)
      if (i != without && lines.get(i).state == 0) sets.add(lines.get(i).set);
    return sets;
  }

  private static List<int[]> filtered(List<int[]> from, List<Integer> sets) {
    List<int[]> out = new ArrayList<>();
    for (int[] row : from) {
      boolean fits = true;
      for (int set : sets) fits = fits && stands(row, set);
      if (fits) out.add(row);
    }
    return out;
  }

  private static int runs(int[] row, int set) {
    int runs = 0;
    boolean before = false;
    for (int c : row) {
      boolean now = (set >> c & 1) == 1;
      if (now && !before) runs++;
      before = now;
    }
    return runs;
  }

  private static boolean stands(int[] row, int set) {
    return runs(row, set) <= 1;
  }

  private static int place(int[] row, int column) {
    for (int p = 0; p < row.length; p++) if (row[p] == column) return p;
    throw new IllegalStateException("no such column");
  }

  private int refuse(int number) {
    refused[-number]++;
    return number;
  }

  private boolean noColumn(int a) {
    return a < 0 || a >= columns;
  }

  private boolean noLine(int line) {
    return line < 0 || line >= lines.size();
  }

  private boolean noSet(int set) {
    return set < 0 || set >= 1 << columns;
  }

  private int verdict(int some) {
    return some == good.size() ? 2 : some > 0 ? 1 : 0;
  }

  int table(int n) {
    if (n < 1) return refuse(-4);
    if (n > 8) return refuse(-6);
    start(n);
    return 1;
  }

  private int tell(Line line) {
    line.state = 1;
    for (int[] row : good) if (stands(row, line.set)) line.state = 0;
    change();
    return line.state == 0 ? 1 : 0;
  }

  int line(int set) {
    if (noSet(set)) return refuse(-2);
    if (lines.size() == 40) return refuse(-6);
    Line line = new Line();
    line.set = set;
    line.state = 2;
    lines.add(line);
    tell(line);
    return lines.size() - 1;
  }

  int drop(int line) {
    if (noLine(line)) return refuse(-1);
    if (lines.get(line).state == 2) return refuse(-3);
    lines.get(line).state = 2;
    change();
    return 1;
  }

  int again(int line) {
    if (noLine(line)) return refuse(-1);
    if (lines.get(line).state == 0) return refuse(-3);
    return tell(lines.get(line));
  }

  int weight(int line, int w) {
    if (noLine(line)) return refuse(-1);
    if (w < 0) return refuse(-4);
    if (w > 100) return refuse(-6);
    int was = lines.get(line).weight;
    lines.get(line).weight = w;
    gapsOfGood = null;
    return was;
  }

  int lineOf(int line, int what) {
    if (noLine(line)) return refuse(-1);
    Line it = lines.get(line);
    if (what == 0) return it.set;
    if (what == 1) return it.state;
    if (what == 2) return it.weight;
    if (what == 3) return Integer.bitCount(it.set);
    return refuse(-2);
  }

  int why(int line) {
    if (noLine(line)) return refuse(-1);
    if (lines.get(line).state != 1) return refuse(-3);
    List<Integer> sets = new ArrayList<>();
    sets.add(lines.get(line).set);
    List<int[]> left = filtered(all, sets);
    for (int i = 0; i < lines.size(); i++) {
      if (lines.get(i).state == 0) {
        left = filtered(left, List.of(lines.get(i).set));
        if (left.isEmpty()) return i;
      }
    }
    return -9;
  }

  int rows() {
    return good.size();
  }

  int row(int i, int place) {
    if (i < 0 || i >= good.size()) return refuse(-1);
    if (place < 0) return refuse(-4);
    if (place >= columns) return refuse(-6);
    return good.get(i)[place];
  }

  static int packed(int[] row) {
    int bits = 0;
    for (int c : row) bits = bits * 16 + c;
    return bits;
  }

  int rank(int row) {
    for (int i = 0; i < good.size(); i++) if (packed(good.get(i)) == row) return i;
    return -9;
  }

  int together(int set) {
    if (noSet(set)) return refuse(-2);
    int some = 0;
    for (int[] row : good) if (stands(row, set)) some++;
    return verdict(some);
  }

  int round(int set) {
    if (noSet(set)) return refuse(-2);
    int some = 0;
    for (int[] row : good) {
      // Walk the ring itself: as many runs as there are steps from outside the set into it.
      int runs = 0;
      for (int p = 0; p < columns; p++) {
        boolean here = (set >> row[p] & 1) == 1;
        boolean before = (set >> row[(p + columns - 1) % columns] & 1) == 1;
        if (here && !before) runs++;
      }
      if (runs <= 1) some++;
    }
    return verdict(some);
  }

  int between(int a, int b, int c) {
    if (noColumn(a) || noColumn(b) || noColumn(c) || a == b || b == c || a == c) return refuse(-1);
    int some = 0;
    for (int[] row : good) {
      int low = Math.min(place(row, a), place(row, c));
      int high = Math.max(place(row, a), place(row, c));
      if (low < place(row, b) && place(row, b) < high) some++;
    }
    return verdict(some);
  }

  int next(int a, int b) {
    if (noColumn(a) || noColumn(b) || a == b) return refuse(-1);
    int some = 0;
    for (int[] row : good) if (Math.abs(place(row, a) - place(row, b)) == 1) some++;
    return verdict(some);
  }

  int ends(int a) {
    if (noColumn(a)) return refuse(-1);
    int some = 0;
    for (int[] row : good) if (row[0] == a || row[columns - 1] == a) some++;
    return verdict(some);
  }

  int apart(int a, int b, boolean least) {
    if (noColumn(a) || noColumn(b) || a == b) return refuse(-1);
    int low = 100;
    int high = 0;
    for (int[] row : good) {
      int d = Math.abs(place(row, a) - place(row, b));
      low = Math.min(low, d);
      high = Math.max(high, d);
    }
    return least ? low : high;
  }

  private List<Integer> knotSets() {
    if (knots != null) return knots;
    List<Integer> firm = new ArrayList<>();
    for (int set = 1; set < 1 << columns; set++) {
      boolean each = true;
      for (int[] row : good) {
        if (!stands(row, set)) {
          each = false;
          break;
        }
      }
      if (each) firm.add(set);
    }
    knots = new ArrayList<>();
    for (int set : firm) {
      boolean torn = false;
      for (int o : firm) torn = torn || (o & set) != 0 && (set & ~o) != 0 && (o & ~set) != 0;
      if (!torn) knots.add(set);
    }
    knots.sort((x, y) -> Integer.bitCount(x) != Integer.bitCount(y)
        ? Integer.bitCount(x) - Integer.bitCount(y) : x - y);
    return knots;
  }

  private static boolean inside(int small, int great) {
    return small != great && (small & ~great) == 0;
  }

  private List<Integer> parts(int set) {
    List<Integer> parts = new ArrayList<>();
    for (int part : knotSets()) {
      boolean greatest = inside(part, set);
      for (int o : knotSets()) if (inside(part, o) && inside(o, set)) greatest = false;
      if (greatest) parts.add(part);
    }
    parts.sort((x, y) -> firstPlace(x) - firstPlace(y));
    return parts;
  }

  private int firstPlace(int set) {
    for (int p = 0; p < columns; p++) if ((set >> good.get(0)[p] & 1) == 1) return p;
    throw new IllegalStateException("an empty knot");
  }

  private int kind(List<Integer> parts) {
    if (parts.isEmpty()) return 0;
    if (parts.size() == 2) return 1;
    Set<String> orders = new HashSet<>();
    for (int[] row : good) {
      StringBuilder order = new StringBuilder();
      int last = -1;
      for (int c : row) {
        for (int i = 0; i < parts.size(); i++) {
          if ((parts.get(i) >> c & 1) == 1 && i != last) {
            order.append(i);
            last = i;
          }
        }
      }
      orders.add(order.toString());
    }
    int any = 1;
    for (int i = 2; i <= parts.size(); i++) any *= i;
    if (orders.size() == any) return 2;
    if (orders.size() == 2) return 3;
    throw new IllegalStateException("a knot of no kind");
  }

  int knots() {
    return knotSets().size();
  }

  int knot(int k, int what) {
    if (k < 0 || k >= knotSets().size()) return refuse(-1);
    int set = knotSets().get(k);
    List<Integer> parts = parts(set);
    if (what == 0) return set;
    if (what == 1) return kind(parts);
    if (what == 2) return parts.size();
    if (what == 3) {
      for (int o : knotSets()) if (parts(o).contains(set)) return knotSets().indexOf(o);
      return -9;
    }
    if (what < 0 || what - 4 >= parts.size()) return refuse(-2);
    return knotSets().indexOf(parts.get(what - 4));
  }

  int join(int a, int b) {
    if (noColumn(a) || noColumn(b)) return refuse(-1);
    int found = -1;
    for (int k = 0; k < knotSets().size(); k++) {
      int set = knotSets().get(k);
      if ((set >> a & 1) == 1 && (set >> b & 1) == 1
          && (found < 0 || inside(set, knotSets().get(found)))) found = k;
    }
    return found;
  }

  private int[] gapsOfAll() {
    if (gapsOfGood == null) {
      gapsOfGood = new int[good.size()];
      for (int i = 0; i < gapsOfGood.length; i++)
        for (Line line : lines)
          if (line.state == 1) gapsOfGood[i] += (runs(good.get(i), line.set) - 1) * line.weight;
    }
    return gapsOfGood;
  }

  int gaps(int i) {
    if (i < 0 || i >= good.size()) return refuse(-1);
    return gapsOfAll()[i];
  }

  int best() {
    int found = 0;
    for (int i = 0; i < good.size(); i++) if (gapsOfAll()[i] < gapsOfAll()[found]) found = i;
    return found;
  }

  int within(int gaps) {
    int some = 0;
    for (int g : gapsOfAll()) if (g <= gaps) some++;
    return some;
  }

  int spare(int line) {
    if (noLine(line)) return refuse(-1);
    if (lines.get(line).state != 0) return refuse(-3);
    return filtered(all, takenBut(line)).size() == good.size() ? 1 : 0;
  }

  int count(int what) {
    if (what == 0) return columns;
    if (what == 1) return lines.size();
    if (what >= 2 && what <= 4) {
      int some = 0;
      for (Line line : lines) if (line.state == what - 2) some++;
      return some;
    }
    if (what >= 11 && what <= 16) return refused[what - 10];
    return -9;
  }
}
