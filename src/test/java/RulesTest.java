import java.lang.reflect.Field;
import java.lang.reflect.Method;
import java.lang.reflect.Modifier;
import java.nio.file.Files;
import java.nio.file.Path;
import java.util.List;
import java.util.Set;
import java.util.TreeSet;
import java.util.regex.Matcher;
import java.util.regex.Pattern;

/** The rules of LANGUAGE.md that a look at the class and at its text can tell. Runs at the root. */
public final class RulesTest {
  private static final Checks CHECKS = new Checks();
  private static final Set<String> FACE = new TreeSet<>(List.of(
      "table(int)", "line(int)", "drop(int)", "again(int)", "weight(int,int)", "lineOf(int,int)",
      "why(int)", "rows()", "row(int,int)", "rank(int)", "together(int)", "round(int)",
      "between(int,int,int)", "next(int,int)", "ends(int)", "apart(int,int,boolean)", "knots()",
      "knot(int,int)", "join(int,int)", "gaps(int)", "best()", "within(int)", "spare(int)",
      "count(int)"));

  public static void main(String[] args) throws Exception {
    face();
    nested();
    text(Files.readString(Path.of("src/main/java/OnesDesk.java")));
    CHECKS.end();
  }

  private static void face() {
    Class<?> desk = OnesDesk.class;
    CHECKS.holds("public and final", desk.getModifiers() == (Modifier.PUBLIC | Modifier.FINAL));
    CHECKS.holds("one constructor", desk.getDeclaredConstructors().length == 1
        && desk.getConstructors().length == 1
        && desk.getConstructors()[0].getParameterCount() == 0);
    Set<String> seen = new TreeSet<>();
    Set<String> names = new TreeSet<>();
    for (Method method : desk.getDeclaredMethods()) {
      if (Modifier.isPrivate(method.getModifiers())) continue;
      CHECKS.holds(method + " is public", Modifier.isPublic(method.getModifiers()));
      CHECKS.holds(method + " answers an int", method.getReturnType() == int.class);
      seen.add(signature(method));
      names.add(method.getName());
    }
    CHECKS.holds("the face is that of the document: " + seen, seen.equals(FACE));
    for (Method method : desk.getDeclaredMethods()) {
      CHECKS.holds(method + " has a name of its own",
          !Modifier.isPrivate(method.getModifiers()) || !names.contains(method.getName()));
    }
    fields(desk);
  }

  private static String signature(Method method) {
    StringBuilder out = new StringBuilder(method.getName()).append('(');
    for (Class<?> type : method.getParameterTypes()) {
      if (out.charAt(out.length() - 1) != '(') out.append(',');
      out.append(type.getName());
    }
    return out.append(')').toString();
  }

  private static void fields(Class<?> of) {
    int own = 0;
    for (Field field : of.getDeclaredFields()) {
      boolean still = Modifier.isStatic(field.getModifiers());
      CHECKS.holds(field + " is private", Modifier.isPrivate(field.getModifiers()));
      CHECKS.holds(field + ", if static, is final",
          !still || Modifier.isFinal(field.getModifiers()));
      if (!still) own++;
    }
    CHECKS.holds(of + " has few fields", own <= 20);
    for (Method method : of.getDeclaredMethods()) {
      CHECKS.holds(method + " takes at most seven", method.getParameterCount() <= 7);
    }
  }

  private static void nested() {
    Class<?>[] inside = OnesDesk.class.getDeclaredClasses();
    CHECKS.holds("few classes", inside.length <= 11);
    for (Class<?> one : inside) {
      CHECKS.holds(one + " is private and static",
          (one.getModifiers() & (Modifier.PRIVATE | Modifier.STATIC))
              == (Modifier.PRIVATE | Modifier.STATIC));
      CHECKS.holds(one + " holds no class", one.getDeclaredClasses().length == 0);
      fields(one);
    }
  }

  private static void text(String whole) {
    CHECKS.holds("ASCII", whole.chars().allMatch(c -> c == '\n' || c >= 32 && c < 127));
    String code = whole.replaceAll("(?s)/\\*.*?\\*/", " ").replaceAll("//[^\n]*", " ");
    for (String word : List.of("throw", "throws", "try", "catch", "finally", "synchronized",
        "assert", "package", "Thread", "Random", "Exception")) {
      CHECKS.holds("no " + word, !Pattern.compile("\\b" + word + "\\b").matcher(code).find());
    }
    CHECKS.holds("no lambda", !code.contains("->") && !code.contains("::"));
    CHECKS.holds("no division, so no divisor to look at", !code.contains("/") && !code.contains("%"));
    Matcher calls = Pattern.compile("\\b(Integer|Long|Math|Arrays|String)\\.(\\w+)").matcher(code);
    while (calls.find()) {
      CHECKS.holds("the library has " + calls.group(),
          Set.of("bitCount", "max", "min").contains(calls.group(2)));
    }
    madeOnlyWithTheDesk(code);
    lengths(whole);
  }

  /** One room holds what all calls of a run make: here no call makes anything. */
  private static void madeOnlyWithTheDesk(String code) {
    int from = code.indexOf("public OnesDesk() {");
    int to = code.indexOf("}", from);
    CHECKS.holds("the constructor is found", from > 0 && to > from);
    String rest = code.substring(0, from) + code.substring(to);
    for (String line : rest.split("\n")) {
      boolean field = line.matches(" {8}private final (int|boolean)\\[\\] \\w+ = new .*;");
      CHECKS.holds("made with the desk: " + line,
          field || !Pattern.compile("\\bnew\\b").matcher(line).find());
    }
  }

  private static void lengths(String whole) {
    int open = -1;
    String[] lines = whole.split("\n");
    for (int i = 0; i < lines.length; i++) {
      CHECKS.holds("line " + (i + 1) + " is not long", lines[i].length() <= 100);
      // A method's last line stands as far in as its first.
      if (lines[i].matches(" {4}(| {4})\\w.*\\{") && !lines[i].contains("class ")) open = i;
      if (open >= 0 && lines[i].matches(" {4}(| {4})\\}")) {
        CHECKS.holds("the method at line " + (open + 1) + " is short", i - open < 60);
        open = -1;
      }
    }
  }
}
