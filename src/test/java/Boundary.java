import java.lang.annotation.ElementType;
import java.lang.annotation.Retention;
import java.lang.annotation.RetentionPolicy;
import java.lang.annotation.Target;
import java.lang.reflect.InvocationTargetException;
import java.lang.reflect.Method;
import java.util.ArrayList;
import java.util.Arrays;
import java.util.Comparator;
import java.util.List;
import java.util.function.IntUnaryOperator;
import java.util.function.Supplier;
import java.util.function.ToIntFunction;

// What the boundary tests share. Each of their tests quotes the sentence of DOC.md that it tries, and no desk is used
// for more than 512 calls, since later answers are free.
abstract class Boundary extends Desks {
  /** The sentence that a test tries: the heading it stands under ("Terms", "Promise 7"), and its words. */
  @Retention(RetentionPolicy.RUNTIME)
  @Target(ElementType.METHOD)
  @interface Says {
    String at();

    String text();
  }

  private static int wrong = 0;
  private static int asked = 0;
  private static Method now = null;

  // ---- running tests

  static List<Method> testsOf(Class<?> tests) {
    List<Method> found = new ArrayList<>();
    for (Method m : tests.getDeclaredMethods()) if (m.isAnnotationPresent(Says.class)) found.add(m);
    found.sort(Comparator.comparing(Method::getName));
    return found;
  }

  static void run(Class<?> tests) throws IllegalAccessException {
    List<Method> all = testsOf(tests);
    for (Method m : all) {
      now = m;
      int before = asked;
      m.setAccessible(true);
      try {
        m.invoke(null);
      } catch (InvocationTargetException e) {
        complain("threw " + e.getCause());
      }
      if (asked == before) complain("asked nothing");
    }
    System.out.println(all.size() + " tests, " + asked + " answers looked at, " + wrong + " not as due");
    if (wrong != 0 || all.isEmpty()) System.exit(1);
  }

  private static void complain(String what) {
    wrong++;
    Says says = now.getAnnotation(Says.class);
    System.out.println(now.getName() + ": " + what + "\n    " + says.at() + ": \"" + says.text() + "\"");
  }

  // ---- what is due

  static void due(String call, int got, int want) {
    asked++;
    if (got != want) complain(call + " answered " + nameOf(got) + ", due is " + nameOf(want));
  }

  /** The same call for each of some numbers, which stand for the # in its name. */
  static void dueAll(String call, int[] numbers, IntUnaryOperator answer, int want) {
    for (int n : numbers) due(call.replace("#", Integer.toString(n)), answer.applyAsInt(n), want);
  }

  static void dueOut(String call, CubeDesk x, int length, String want) {
    due(call, length, want.length());
    due(call + ", then count(4)", x.count(4), want.length());
    StringBuilder got = new StringBuilder();
    for (int i = 0; i < Math.min(length, want.length()); i++) got.append((char) x.out(i));
    asked++;
    if (!got.toString().equals(want)) complain(call + " wrote [" + got + "], due is [" + want + "]");
    due(call + ", then out behind its end", x.out(want.length()), NONE);
  }

  private static String nameOf(int answer) {
    return answer == NONE ? "NONE" : answer == OUTSIDE ? "OUTSIDE" : answer == STATE ? "STATE"
        : answer == FULL ? "FULL" : Integer.toString(answer);
  }

  /** Numbers just and far beside least .. greatest, also such as look like one inside where high bits are lost. */
  static int[] beside(int least, int greatest) {
    return new int[] {
      Integer.MIN_VALUE, Integer.MIN_VALUE + greatest, -65536 + least, -256 + Math.min(least, 0) * 10, least - 2, least - 1,
      greatest + 1, greatest + 2, 256 + greatest, 65536 + greatest, Integer.MAX_VALUE - 1, Integer.MAX_VALUE};
  }

  /** A refused call leaves all as it was: a desk with the call can't be told from one without it. */
  static void dueUnchanged(Supplier<CubeDesk> history, String call, ToIntFunction<CubeDesk> refused, int want) {
    CubeDesk touched = history.get();
    due(call, refused.applyAsInt(touched), want);
    List<String> with = lookAt(touched), without = lookAt(history.get());
    asked++;
    for (int i = 0; i < Math.max(with.size(), without.size()); i++) {
      String one = i < with.size() ? with.get(i) : "nothing", other = i < without.size() ? without.get(i) : "nothing";
      if (!one.equals(other)) {
        complain("after " + call + " is " + one + ", without it " + other);
        return;
      }
    }
  }

  // ---- all that can be seen of a desk

  private static List<String> lookAt(CubeDesk x) {
    List<String> seen = new ArrayList<>();
    for (int what = 0; what < 6; what++) seen.add("count(" + what + ") " + x.count(what));
    seen.add("read() " + x.read());
    int bytes = Math.min(40, x.count(4));
    for (int i = 0; i < bytes; i++) seen.add("out(" + i + ") " + x.out(i));
    lookAtDimensions(x, seen);
    lookAtCuboids(x, seen);
    for (int value = 0; value < 4; value++) seen.add("total(" + value + ") " + x.total(value));
    for (int d = 0; d < 4; d++) {
      int pick = x.pick(d, 0);
      x.pick(d, pick);
      seen.add("pick of " + d + " " + pick);
    }
    for (int d = 0; d < 4; d++) x.pick(d, 0);
    int cuboids = Math.min(24, x.cuboids());
    for (int c = 0; c < cuboids; c++) seen.add("ask(" + c + ", 1) " + x.ask(c, 1));
    lookAtNext(x, seen);
    return seen;
  }

  private static void lookAtDimensions(CubeDesk x, List<String> seen) {
    int dimensions = x.count(0);
    for (int d = 0; d < dimensions; d++) {
      int members = x.members(d, 0);
      for (int l = 0; l < 5; l++) seen.add("members(" + d + ", " + l + ") " + x.members(d, l));
      for (int m = 0; m < members; m++) {
        for (int l = 1; l < 4; l++) seen.add("lies(" + d + ", " + m + ", " + l + ") " + x.lies(d, m, l));
      }
    }
  }

  private static void lookAtCuboids(CubeDesk x, List<String> seen) {
    int cuboids = x.cuboids();
    seen.add("cuboids() " + cuboids);
    for (int c = 0; c < Math.min(24, cuboids); c++) {
      seen.add("kept(" + c + ") " + x.kept(c));
      seen.add("size(" + c + ") " + x.size(c));
      seen.add("server(" + c + ") " + x.server(c));
    }
    for (int k = 0; k < 5; k++) seen.add("group(0, " + k + ") " + x.group(0, k));
  }

  /** What comes next would tell a fact, a dimension or a level that a refused call left behind. */
  private static void lookAtNext(CubeDesk x, List<String> seen) {
    seen.add("level(0, 1) " + x.level(0, 1));
    seen.add("dimension(1) " + x.dimension(1));
    seen.add("fact(1) " + x.fact(1));
    for (int value = 0; value < 4; value++) seen.add("total(" + value + ") at last " + x.total(value));
    seen.add("drop(0) " + x.drop(0));
    seen.add("drop(1) " + x.drop(1));
  }

  static String line(String cell, int cells, String last) {
    String[] row = new String[cells];
    Arrays.fill(row, cell);
    return String.join(" ", row) + " " + last + "\n";
  }
}
