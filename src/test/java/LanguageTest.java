import java.lang.reflect.Constructor;
import java.lang.reflect.Field;
import java.lang.reflect.Method;
import java.lang.reflect.Modifier;
import java.nio.file.Files;
import java.nio.file.Path;
import java.util.ArrayList;
import java.util.Arrays;
import java.util.List;
import java.util.Set;
import java.util.TreeSet;
import java.util.regex.Matcher;
import java.util.regex.Pattern;

// The rules of LANGUAGE.md that a test can see: the face, the words of the source, and the counted limits.
public final class LanguageTest {
  private static final String[] FACE = {
    "int dimension(int)", "int level(int, int)", "int parent(int, int, int, int)", "int lies(int, int, int)",
    "int members(int, int)", "int fact(int)", "int drop(int)", "int pick(int, int)", "int cuboids()",
    "int levelOf(int, int)", "int size(int)", "int serves(int, int)", "int keep(int, boolean)", "int kept(int)",
    "int cost(int)", "int server(int)", "int gain(int)", "int choose(int)", "int best(int)", "int ask(int, int)",
    "int group(int, int)", "int read()", "int filter(int, int, int)", "int total(int)", "int table(int, int, int)",
    "int out(int)", "int count(int)"};
  private static final String[] BARRED = {
    "\\bthrows?\\b", "\\btry\\b", "\\bcatch\\b", "\\bfinally\\b", "\\bsynchronized\\b", "\\bassert\\b", "\\bpackage\\b",
    "->", "::", "\\w+Exact\\b", "\\bhashCode\\b", "\\btoString\\b", "\\bequals\\b", "\\bvar\\b", "\\bgoto\\b",
    "\\bSystem\\.(?!arraycopy)", "\\bThread\\b", "\\bRandom\\b", "\\bdouble\\b", "\\bfloat\\b", "\\bstatic\\s*\\{"};
  private static int wrong = 0;

  private static void hold(boolean holds, String what) {
    if (!holds) {
      wrong++;
      System.out.println("does not hold: " + what);
    }
  }

  public static void main(String[] args) throws Exception {
    lookAtFace();
    lookAtClasses();
    lookAtWords(withoutComments(Files.readString(Path.of("src/main/java/CubeDesk.java"))));
    System.out.println(wrong == 0 ? "the language's rules hold" : wrong + " of the language's rules do not hold");
    if (wrong != 0) System.exit(1);
  }

  private static void lookAtFace() throws Exception {
    Class<?> desk = CubeDesk.class;
    hold(Modifier.isPublic(desk.getModifiers()) && Modifier.isFinal(desk.getModifiers()), "public final class");
    Set<String> open = new TreeSet<>();
    for (Method m : desk.getDeclaredMethods()) {
      if (Modifier.isPrivate(m.getModifiers())) continue;
      hold(Modifier.isPublic(m.getModifiers()) && !Modifier.isStatic(m.getModifiers()), m + " is public");
      List<String> parameters = new ArrayList<>();
      for (Class<?> p : m.getParameterTypes()) parameters.add(p.getName());
      open.add(m.getReturnType().getName() + " " + m.getName() + "(" + String.join(", ", parameters) + ")");
    }
    hold(open.equals(new TreeSet<>(Arrays.asList(FACE))), "the methods are those of the face: " + open);
    Constructor<?>[] made = desk.getDeclaredConstructors();
    hold(made.length == 1 && Modifier.isPublic(made[0].getModifiers()) && made[0].getParameterCount() == 0, "one constructor");
    Set<String> constants = new TreeSet<>();
    for (Field f : desk.getDeclaredFields()) {
      if (Modifier.isPrivate(f.getModifiers())) continue;
      hold(f.getModifiers() == (Modifier.PUBLIC | Modifier.STATIC | Modifier.FINAL), f + " is a constant");
      constants.add(f.getName() + f.getInt(null));
    }
    hold(constants.equals(Set.of("NONE-2000000001", "OUTSIDE-2000000002", "STATE-2000000003", "FULL-2000000004")),
        "the constants are those of the face: " + constants);
  }

  private static void lookAtClasses() {
    Set<String> open = new TreeSet<>();
    for (String method : FACE) open.add(method.replaceAll("int (\\w+)\\(.*", "$1"));
    List<Class<?>> classes = new ArrayList<>(Arrays.asList(CubeDesk.class.getDeclaredClasses()));
    for (Class<?> c : classes) {
      hold(Modifier.isStatic(c.getModifiers()) && !Modifier.isPublic(c.getModifiers()), c + " is static and not public");
      hold(c.getDeclaredClasses().length == 0, c + " has no classes inside");
    }
    classes.add(CubeDesk.class);
    hold(classes.size() <= 12, "at most twelve classes");
    for (Class<?> c : classes) {
      int fields = 0;
      for (Field f : c.getDeclaredFields()) {
        if (!Modifier.isStatic(f.getModifiers())) fields++;
        else hold(Modifier.isFinal(f.getModifiers()) && f.getType() == int.class, f + " is a constant");
      }
      hold(fields <= 20, c + " has at most twenty fields");
      for (Method m : c.getDeclaredMethods()) {
        hold(m.getParameterCount() <= 7, m + " takes at most seven parameters");
        hold(Modifier.isPublic(m.getModifiers()) || !open.contains(m.getName()), m + " bears no name of the face");
      }
    }
  }

  private static String withoutComments(String source) {
    return source.replaceAll("(?s)/\\*.*?\\*/", "").replaceAll("//[^\n]*", "");
  }

  private static void lookAtWords(String source) {
    for (String barred : BARRED) {
      Matcher m = Pattern.compile(barred).matcher(source);
      hold(!m.find(), "the source is without " + barred);
    }
    Matcher imports = Pattern.compile("import ([^;]+);").matcher(source);
    while (imports.find()) hold(imports.group(1).equals("java.util.Arrays"), "no import of " + imports.group(1));
    hold(source.chars().allMatch(c -> c < 128), "plain characters alone");
    int begun = 0, number = 0;
    for (String line : source.split("\n")) {
      number++;
      if (line.matches("( {4}| {8})[a-z][^;=]*\\(.*\\{")) begun = number;
      if (line.matches("( {4}| {8})\\}")) hold(number - begun <= 60, "the method that ends in line " + number + " is short");
    }
  }
}
