import java.io.ByteArrayOutputStream;
import java.io.IOException;
import java.io.PrintStream;
import java.lang.reflect.Field;
import java.lang.reflect.Method;
import java.lang.reflect.Modifier;
import java.net.URL;
import java.net.URLClassLoader;
import java.nio.file.Files;
import java.nio.file.Path;
import java.util.ArrayList;
import java.util.Comparator;
import java.util.List;
import java.util.regex.Matcher;
import java.util.regex.Pattern;
import java.util.stream.Stream;
import javax.tools.ToolProvider;

// README.md against the project: its example does what it tells, its commands name files that there are, and it leaves
// out no call, refusal, class or test.
public final class ReadmeTest {
  private static int wrong = 0;

  private static void hold(boolean holds, String what) {
    if (!holds) {
      wrong++;
      System.out.println("does not hold: " + what);
    }
  }

  public static void main(String[] args) throws Exception {
    String readme = Files.readString(Path.of("README.md"));
    lookAtExample(readme);
    lookAtCalls(readme);
    lookAtRefusals(readme);
    lookAtClasses(readme);
    lookAtTests(readme);
    lookAtCommands(readme);
    System.out.println(wrong == 0 ? "README.md tells what is so" : wrong + " things that README.md tells are not so");
    if (wrong != 0) System.exit(1);
  }

  private static List<String> blocks(String readme, String kind) {
    List<String> found = new ArrayList<>();
    Matcher m = Pattern.compile("(?ms)^```" + kind + "\n(.*?)^```$").matcher(readme);
    while (m.find()) found.add(m.group(1));
    return found;
  }

  // ---- the example

  private static void lookAtExample(String readme) throws Exception {
    List<String> sources = blocks(readme, "java"), prints = blocks(readme, "text");
    hold(sources.size() == 1 && prints.size() == 1, "one example with what it prints");
    if (wrong != 0) return;
    Path folder = Files.createTempDirectory("readme");
    try {
      Path source = folder.resolve("Sales.java");
      Files.writeString(source, sources.get(0));
      int code = ToolProvider.getSystemJavaCompiler().run(null, null, null, "--release", "17",
          "-cp", System.getProperty("java.class.path"), "-d", folder.toString(), source.toString());
      hold(code == 0, "the example compiles");
      if (code == 0) hold(printsOf(folder).equals(prints.get(0)), "the example prints what is told, not\n" + printsOf(folder));
    } finally {
      remove(folder);
    }
  }

  private static String printsOf(Path folder) throws Exception {
    ByteArrayOutputStream bytes = new ByteArrayOutputStream();
    PrintStream before = System.out;
    try (URLClassLoader loader = new URLClassLoader(new URL[] {folder.toUri().toURL()})) {
      Method start = loader.loadClass("Sales").getMethod("main", String[].class);
      System.setOut(new PrintStream(bytes, true));
      start.invoke(null, (Object) new String[0]);
    } finally {
      System.setOut(before);
    }
    return bytes.toString().replace(System.lineSeparator(), "\n");
  }

  private static void remove(Path folder) throws IOException {
    try (Stream<Path> files = Files.walk(folder)) {
      for (Path file : files.sorted(Comparator.reverseOrder()).toList()) Files.delete(file);
    }
  }

  // ---- the lists

  private static void lookAtCalls(String readme) {
    int calls = 0;
    for (Method m : CubeDesk.class.getDeclaredMethods()) {
      if (!Modifier.isPublic(m.getModifiers())) continue;
      calls++;
      Matcher row = Pattern.compile("(?m)^\\| `" + m.getName() + "\\(([^)]*)\\)` \\| \\S").matcher(readme);
      boolean found = row.find();
      int parameters = found && !row.group(1).isEmpty() ? row.group(1).split(", ").length : 0;
      hold(found && parameters == m.getParameterCount(), "a row for " + m);
    }
    Matcher rows = Pattern.compile("(?m)^\\| `\\w+\\(").matcher(readme);
    hold(rows.results().count() == calls, "a row for each call and for nothing else");
  }

  private static void lookAtRefusals(String readme) throws IllegalAccessException {
    for (Field f : CubeDesk.class.getDeclaredFields()) {
      if (!Modifier.isPublic(f.getModifiers())) continue;
      hold(readme.contains("| `" + f.getName() + "` | " + f.getInt(null) + " | "), "a row for " + f.getName());
    }
  }

  private static void lookAtClasses(String readme) {
    String built = sectionOf(readme, "How it is built");
    for (Class<?> c : CubeDesk.class.getDeclaredClasses()) {
      hold(built.contains("`" + c.getSimpleName() + "`"), "a word on the class " + c.getSimpleName());
    }
  }

  private static void lookAtTests(String readme) throws IOException {
    String tests = sectionOf(readme, "Tests");
    try (Stream<Path> files = Files.list(Path.of("src/test/java"))) {
      for (Path file : files.sorted().toList()) {
        String name = file.getFileName().toString().replace(".java", "");
        hold(tests.contains("`" + name + "`"), "a word on the test " + name);
      }
    }
  }

  private static String sectionOf(String readme, String head) {
    int start = readme.indexOf("\n## " + head + "\n");
    hold(start >= 0, "a section \"" + head + "\"");
    if (start < 0) return "";
    int end = readme.indexOf("\n## ", start + 1);
    return readme.substring(start, end < 0 ? readme.length() : end);
  }

  // ---- the commands

  private static void lookAtCommands(String readme) {
    int files = 0;
    for (String block : blocks(readme, "sh")) {
      for (String word : block.split("\\s+")) {
        // The example's own file is the reader's, and what stands in ../shared is not the project's to say.
        boolean isFile = word.contains("/") || word.endsWith(".java");
        if (!isFile || word.equals("Sales.java") || word.startsWith("../shared/")) continue;
        files++;
        hold(Files.exists(Path.of(word)), "there is a file " + word);
      }
    }
    hold(files > 0, "commands that name files");
    hold(Files.isExecutable(Path.of(".ci/run")), ".ci/run can be run");
  }
}
