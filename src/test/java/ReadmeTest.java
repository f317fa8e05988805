import java.lang.reflect.InvocationTargetException;
import java.lang.reflect.Method;
import java.lang.reflect.Modifier;
import java.nio.file.Files;
import java.nio.file.Path;
import java.util.NoSuchElementException;
import java.util.regex.Matcher;
import java.util.regex.Pattern;

/** README.md: its example is played, and each call of the face stands in it. */
public final class ReadmeTest {
  private static final Pattern TOLD = Pattern.compile("tell\\(x, \"(.*)\"\\);");
  private static final Pattern CALLED = Pattern.compile("x\\.(\\w+)\\((.*?)\\);\\s+// (-?\\w+)( NoSuchElementException)?(:.*)?");

  public static void main(String[] args) throws Exception {
    String page = Files.readString(Path.of("README.md"));
    eachCallStandsThere(page);
    play(page.substring(page.indexOf("```java") + 7, page.lastIndexOf("```")).trim().split("\n"));
    Due.end();
  }

  private static void eachCallStandsThere(String page) {
    for (Method m : LeafSweep.class.getDeclaredMethods()) {
      if (Modifier.isPublic(m.getModifiers())) Due.due(m.getName() + " stands in README.md", Pattern.compile("\\b" + m.getName() + "\\b").matcher(page).find(), true);
    }
  }

  private static void play(String[] lines) throws Exception {
    LeafSweep x = new LeafSweep();
    Due.due("the first line of the example", lines[0], "LeafSweep x = new LeafSweep();");
    Due.due("there is an example", lines.length > 30, true);
    for (int i = 1; i < lines.length; i++) {
      Matcher told = TOLD.matcher(lines[i]);
      Matcher called = CALLED.matcher(lines[i]);
      if (told.matches()) {
        Due.feed(x, told.group(1));
      } else if (called.matches()) {
        Due.due(lines[i], answer(x, called.group(1), called.group(2)), called.group(3));
      } else {
        Due.due("a line of the example that is neither told nor called: " + lines[i], true, false);
      }
    }
  }

  private static String answer(LeafSweep x, String name, String arguments) throws Exception {
    for (Method m : LeafSweep.class.getDeclaredMethods()) {
      if (!m.getName().equals(name) || !Modifier.isPublic(m.getModifiers())) continue;
      Object[] numbers = new Object[m.getParameterCount()];
      String[] texts = arguments.split(", ");
      for (int i = 0; i < numbers.length; i++) numbers[i] = texts[i].equals("LeafSweep.NONE") ? LeafSweep.NONE : Integer.parseInt(texts[i]);
      try {
        return String.valueOf(m.invoke(x, numbers));
      } catch (InvocationTargetException e) {
        return e.getCause() instanceof NoSuchElementException ? "throws" : String.valueOf(e.getCause());
      }
    }
    return "no such call";
  }
}
