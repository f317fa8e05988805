import java.io.PrintWriter;
import java.io.StringWriter;
import java.lang.reflect.Constructor;
import java.lang.reflect.Field;
import java.lang.reflect.Method;
import java.lang.reflect.Modifier;
import java.nio.file.Files;
import java.nio.file.Path;
import java.util.ArrayList;
import java.util.Arrays;
import java.util.HashMap;
import java.util.HashSet;
import java.util.List;
import java.util.Map;
import java.util.Set;
import java.util.TreeSet;
import java.util.regex.Matcher;
import java.util.regex.Pattern;
import java.util.spi.ToolProvider;

/** The rules of LANGUAGE.md, as far as they can be looked at from outside, and the face that the document prints. */
public final class LanguageTest {
  private static final Path SOURCE = Path.of("src/main/java/LeafSweep.java");
  private static final Path DOCUMENT = Path.of("../shared/DOC.md");
  private static final int DEEPEST = 8;

  public static void main(String[] args) throws Exception {
    theFace();
    theMembers();
    theWords();
    theSizes();
    theDepth();
    Due.end();
  }

  private static void theFace() throws Exception {
    Set<String> due = new TreeSet<>();
    Matcher m = Pattern.compile("public (int|boolean) (\\w+)\\((.*?)\\)( throws \\w+)?;").matcher(Files.readString(DOCUMENT));
    while (m.find()) due.add(m.group(1) + " " + m.group(2) + "(" + m.group(3).replaceAll(" \\w+(,|$)", "$1") + ")" + (m.group(4) == null ? "" : m.group(4)));
    Set<String> got = new TreeSet<>();
    for (Method x : LeafSweep.class.getDeclaredMethods()) {
      if (!Modifier.isPublic(x.getModifiers())) continue;
      List<String> types = new ArrayList<>();
      for (Class<?> t : x.getParameterTypes()) types.add(t.getName());
      got.add(x.getReturnType() + " " + x.getName() + "(" + String.join(", ", types) + ")" + (x.getExceptionTypes().length == 0 ? "" : " throws " + x.getExceptionTypes()[0].getSimpleName()));
    }
    Due.due("the face", got.toString(), due.toString());
    Due.due("the face is not empty", got.size(), 53);
  }

  private static List<Class<?>> classes() {
    List<Class<?>> all = new ArrayList<>(List.of(LeafSweep.class));
    all.addAll(Arrays.asList(LeafSweep.class.getDeclaredClasses()));
    return all;
  }

  private static void theMembers() {
    Set<String> face = new HashSet<>();
    for (Method x : LeafSweep.class.getDeclaredMethods()) if (Modifier.isPublic(x.getModifiers())) face.add(x.getName());
    for (Method x : LeafSweep.class.getDeclaredMethods()) Due.due(x + " is public or private", Modifier.isPublic(x.getModifiers()) || Modifier.isPrivate(x.getModifiers()), true);
    for (Field x : LeafSweep.class.getDeclaredFields()) Due.due(x + " is NONE or private", x.getName().equals("NONE") || Modifier.isPrivate(x.getModifiers()), true);
    for (Constructor<?> x : LeafSweep.class.getDeclaredConstructors()) Due.due(x + " is public", Modifier.isPublic(x.getModifiers()), true);
    Due.due("final", Modifier.isFinal(LeafSweep.class.getModifiers()), true);
    for (Class<?> c : classes()) {
      Due.due(c + " has no class inside its classes", c == LeafSweep.class || c.getDeclaredClasses().length == 0, true);
      Due.due(c + " is static", c == LeafSweep.class || Modifier.isStatic(c.getModifiers()) && !Modifier.isPublic(c.getModifiers()), true);
      for (Field x : c.getDeclaredFields()) Due.due(x + " is final, if it is static", !Modifier.isStatic(x.getModifiers()) || Modifier.isFinal(x.getModifiers()), true);
      for (Method x : c.getDeclaredMethods()) {
        Due.due(x + " bears no name of the face", c == LeafSweep.class && Modifier.isPublic(x.getModifiers()) || !face.contains(x.getName()), true);
        Due.due(x + " has at most seven parameters", x.getParameterCount() <= 7, true);
      }
      long fields = Arrays.stream(c.getDeclaredFields()).filter(x -> !Modifier.isStatic(x.getModifiers())).count();
      Due.due(c + " has at most twenty fields", fields <= 20, true);
    }
    Due.due("at most twelve classes", classes().size() <= 12, true);
  }

  private static void theWords() throws Exception {
    String code = Files.readString(SOURCE).replaceAll("(?s)/\\*.*?\\*/", "").replaceAll("//.*", "");
    for (String word : List.of("->", "::", "Exact", "[][]", " + \"", "\" +", "String[]", "new StringBuilder", "double", "float")) Due.due("no " + word, code.contains(word), false);
    Matcher words = Pattern.compile("\\b(finally|try|catch|synchronized|assert|volatile|native|package|protected|Random|Thread|equals|hashCode|toString|List|enum|interface)\\b").matcher(code);
    while (words.find()) Due.due("no " + words.group(), true, false);
    Matcher imports = Pattern.compile("import (.*?);").matcher(code);
    while (imports.find()) Due.due("import " + imports.group(1), imports.group(1), "java.util.NoSuchElementException");
    Matcher thrown = Pattern.compile("throw [^;]*;").matcher(code);
    int throwing = 0;
    while (thrown.find()) {
      throwing++;
      Due.due("throw", thrown.group().startsWith("throw new NoSuchElementException(\""), true);
    }
    Due.due("one throw", throwing, 1);
    Matcher library = Pattern.compile("\\b(System|Math|Integer|Arrays|String|Long)\\.(\\w+)").matcher(code);
    Set<String> used = new TreeSet<>();
    while (library.find()) used.add(library.group());
    used.removeAll(Set.of("Integer.MIN_VALUE", "Integer.bitCount", "Math.max", "Math.min", "System.arraycopy"));
    Due.due("the library", used.toString(), "[]");
  }

  private static void theSizes() throws Exception {
    List<String> lines = Files.readAllLines(SOURCE);
    for (int i = 0; i < lines.size(); i++) {
      Matcher head = Pattern.compile("^( {4}| {8})(?! )(?!.*\\bclass\\b)[\\w\\[\\] ]+\\(.*\\).*\\{$").matcher(lines.get(i));
      if (!head.find()) continue;
      int end = i;
      while (!lines.get(end).equals(head.group(1) + "}")) end++;
      Due.due(lines.get(i).trim() + " has at most sixty lines", end - i + 1 <= 60, true);
    }
  }

  // ---- how deep the calls go

  private static final Map<String, Set<String>> CALLS = new HashMap<>();

  private static void theDepth() throws Exception {
    ToolProvider javap = ToolProvider.findFirst("javap").orElse(null);
    if (javap == null) {
      System.out.println("there is no javap here: the depth of the calls is not looked at");
      return;
    }
    Pattern head = Pattern.compile("^  \\S.*?([\\w$]+)\\(.*\\).*;$");
    Pattern call = Pattern.compile("invoke\\w+ .*// Method (?:([\\w$/]+)\\.)?\"?(<?\\w+>?)\"?:");
    for (Class<?> c : classes()) {
      StringWriter text = new StringWriter();
      PrintWriter out = new PrintWriter(text);
      javap.run(out, out, "-c", "-p", "-cp", System.getProperty("java.class.path"), c.getName());
      String method = "";
      for (String line : text.toString().split("\n")) {
        Matcher h = head.matcher(line);
        Matcher k = call.matcher(line);
        if (h.find()) {
          method = c.getName() + "." + (h.group(1).equals(c.getName()) ? "<init>" : h.group(1));
          CALLS.putIfAbsent(method, new HashSet<>());
        } else if (k.find()) {
          CALLS.get(method).add((k.group(1) == null ? c.getName() : k.group(1)) + "." + k.group(2));
        }
      }
    }
    Due.due("calls are seen", CALLS.getOrDefault("LeafSweep.judged", Set.of()).isEmpty(), false);
    for (String method : new TreeSet<>(CALLS.keySet())) Due.due(method + " goes at most " + DEEPEST + " deep", depth(method, 0) <= DEEPEST, true);
  }

  private static int depth(String method, int above) {
    if (above > 50) return 1000;
    int deepest = 0;
    for (String called : CALLS.getOrDefault(method, Set.of())) deepest = Math.max(deepest, depth(called, above + 1));
    return deepest + 1;
  }
}
