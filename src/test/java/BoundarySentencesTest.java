import java.lang.reflect.Method;
import java.nio.file.Files;
import java.nio.file.Path;
import java.util.ArrayList;
import java.util.LinkedHashMap;
import java.util.List;
import java.util.Map;

// The boundary tests against the document itself: each quotes words that stand there, and no word of the terms or of a
// promise is left without a test.
public final class BoundarySentencesTest extends Boundary {
  private static final Path DOCUMENT = Path.of("../shared/DOC.md");
  private static final Class<?>[] TESTS = {
    BoundaryTermsTest.class, BoundaryRefusalsTest.class, BoundaryDimensionsTest.class, BoundaryCuboidsTest.class,
    BoundaryAskedTest.class};
  /** Of these headings every sentence is tried; the others tell no more than the face and what is free. */
  private static final String TRIED = "Terms|Promise \\d+";
  private static int wrong = 0;

  public static void main(String[] args) throws Exception {
    if (!Files.isReadable(DOCUMENT)) {
      System.out.println("NOT LOOKED AT: there is no " + DOCUMENT + " beside this checkout");
      return;
    }
    Map<String, String> sections = sectionsOf(Files.readString(DOCUMENT));
    Map<String, List<String>> quotes = new LinkedHashMap<>();
    int tests = 0;
    for (Class<?> one : TESTS) {
      for (Method m : testsOf(one)) {
        Says says = m.getAnnotation(Says.class);
        tests++;
        quotes.computeIfAbsent(says.at(), at -> new ArrayList<>()).add(plain(says.text()));
        if (!sections.getOrDefault(says.at(), "").contains(plain(says.text()))) {
          complain(m.getName() + " quotes what does not stand under " + says.at() + ": " + says.text());
        }
        if (!nameFits(m.getName(), says.at())) complain(m.getName() + " is not named after " + says.at());
      }
    }
    int tried = 0;
    for (Map.Entry<String, String> section : sections.entrySet()) {
      if (!section.getKey().matches(TRIED)) continue;
      tried++;
      String left = withoutQuotes(section.getValue(), quotes.getOrDefault(section.getKey(), List.of()));
      if (left.matches(".*[A-Za-z0-9].*")) complain("no test quotes, under " + section.getKey() + ": " + left);
    }
    if (tried != 29) complain("the terms and 28 promises are tried, not " + tried + " headings");
    System.out.println(tests + " tests of " + tried + " headings, " + wrong + " faults");
    if (wrong != 0) System.exit(1);
  }

  private static void complain(String what) {
    wrong++;
    System.out.println(what);
  }

  private static boolean nameFits(String name, String at) {
    if (at.equals("Terms")) return name.matches("(terms[1-4]|refusals)_.*");
    if (at.equals("What it is")) return name.startsWith("whatItIs_");
    return name.startsWith(String.format("promise%02d_", Integer.parseInt(at.substring("Promise ".length()))));
  }

  private static Map<String, String> sectionsOf(String document) {
    Map<String, String> sections = new LinkedHashMap<>();
    for (String part : document.split("(?m)^## ")) {
      int end = part.indexOf('\n');
      if (end < 0) continue;
      String text = part.substring(end).replaceAll("```\\w*", " ").replaceAll("(?m)^`[^`]*`:", " ");
      // These lines say only under which head a call stands.
      text = text.replaceAll("(?m)^Ahead of the calls .*$", " ");
      text = text.replaceAll("=+ \\d|=+", " ");
      sections.put(part.substring(0, end).replaceAll(":.*", ""), plain(text));
    }
    return sections;
  }

  private static String plain(String text) {
    return text.replaceAll("\\s+", " ").trim();
  }

  private static String withoutQuotes(String text, List<String> quotes) {
    boolean[] quoted = new boolean[text.length()];
    for (String quote : quotes) {
      for (int at = text.indexOf(quote); at >= 0; at = text.indexOf(quote, at + 1)) {
        for (int i = at; i < at + quote.length(); i++) quoted[i] = true;
      }
    }
    StringBuilder left = new StringBuilder();
    for (int i = 0; i < text.length(); i++) left.append(quoted[i] ? ' ' : text.charAt(i));
    return plain(left.toString());
  }
}
