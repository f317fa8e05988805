import java.lang.reflect.Method;
import java.nio.file.Files;
import java.nio.file.Path;
import java.util.ArrayList;
import java.util.BitSet;
import java.util.LinkedHashMap;
import java.util.List;
import java.util.Map;
import java.util.TreeSet;
import java.util.stream.Stream;

/** Each sentence of the document's promises and terms is said by a test: by its words, under the promise's number. */
public final class SentencesTest {
  /** What names nothing that a call could answer. */
  private static final List<String> FREE = List.of("==== 2.", "==== 3.");

  private static final Map<String, String> TEXTS = new LinkedHashMap<>();
  private static final Map<String, BitSet> SAID = new LinkedHashMap<>();

  public static void main(String[] args) throws Exception {
    readDocument();
    Due.due("sections", TEXTS.size(), 1 + 1 + 54);
    TreeSet<Integer> promises = new TreeSet<>();
    int tests = 0;
    for (Class<?> c : boundsTests()) {
      for (Method m : Bounds.testsOf(c)) {
        tests++;
        promises.add(Bounds.promiseOf(m));
        look(m);
      }
    }
    for (int n = 1; n <= 54; n++) Due.due("there is a test of promise " + n, promises.contains(n), true);
    for (String free : FREE) mark("Terms", free);
    for (String name : TEXTS.keySet()) unsaid(name);
    System.out.println(tests + " tests of sentences");
    Due.end();
  }

  private static void readDocument() throws Exception {
    String name = "";
    StringBuilder text = new StringBuilder();
    for (String line : (Files.readString(Path.of("../shared/DOC.md")) + "\n## \n").split("\n")) {
      if (line.startsWith("#")) {
        if (name.startsWith("Terms") || name.startsWith("Promise") || name.startsWith("What")) TEXTS.put(name.split(":")[0], text.toString().replaceAll("```\\w*", " ").replaceAll("\\s+", " ").trim());
        name = line.replaceAll("^#+ *", "");
        text.setLength(0);
      } else {
        text.append(line).append(' ');
      }
    }
    String what = TEXTS.get("What it is");
    TEXTS.put("What it is", what.substring(what.indexOf("An object is used")));
    for (String n : TEXTS.keySet()) SAID.put(n, new BitSet());
  }

  private static List<Class<?>> boundsTests() throws Exception {
    List<String> names = new ArrayList<>();
    try (Stream<Path> files = Files.list(Path.of("src/test/java"))) {
      files.map(f -> f.getFileName().toString()).filter(f -> f.matches("Bounds\\w+Test\\.java")).sorted().forEach(names::add);
    }
    List<Class<?>> list = new ArrayList<>();
    for (String n : names) list.add(Class.forName(n.replace(".java", "")));
    Due.due("there are such tests", list.isEmpty(), false);
    return list;
  }

  private static void look(Method m) {
    Says says = m.getAnnotation(Says.class);
    Due.due(m.getName() + " says what it looks at", says != null, true);
    if (says == null) return;
    for (String quote : says.value()) {
      boolean own = mark("Promise " + Bounds.promiseOf(m), quote);
      boolean term = mark("Terms", quote) | mark("What it is", quote);
      Due.due(m.getName() + ": the document says '" + quote + "'", own || term, true);
    }
  }

  private static boolean mark(String section, String quote) {
    String text = TEXTS.get(section);
    boolean found = false;
    for (int at = text.indexOf(quote); at >= 0; at = text.indexOf(quote, at + 1)) {
      SAID.get(section).set(at, at + quote.length());
      found = true;
    }
    return found;
  }

  private static void unsaid(String section) {
    String text = TEXTS.get(section);
    BitSet said = SAID.get(section);
    for (int from = said.nextClearBit(0); from < text.length(); from = said.nextClearBit(from)) {
      int to = said.nextSetBit(from);
      if (to < 0) to = text.length();
      String rest = text.substring(from, to);
      Due.due("no test says, of " + section + ": '" + rest.trim() + "'", rest.matches(".*[A-Za-z0-9].*"), false);
      from = to;
    }
  }
}
