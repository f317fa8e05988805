import java.lang.reflect.InvocationTargetException;
import java.lang.reflect.Method;
import java.lang.reflect.Modifier;
import java.util.ArrayList;
import java.util.List;
import java.util.Map;
import java.util.Random;
import java.util.TreeMap;

/** Random runs of calls, each answered by LeafSweep and by the Model; the two must not differ. */
public final class ModelTest {
  private static final String[] DOING = {"insert", "insert", "remove", "change", "change", "change", "point", "drop", "begin", "begin", "begin",
      "step", "step", "step", "step", "step", "step", "stop", "crash", "resume", "resume", "pack", "undo", "fetch"};

  private final Random random;
  private final LeafSweep sweep = new LeafSweep();
  private final Model model = new Model();
  private final List<String> log = new ArrayList<>();
  private static final Map<String, Method> FACE = new TreeMap<>();
  private static final Map<String, Method> TWIN = new TreeMap<>();
  private static final Map<String, Map<String, Integer>> SEEN = new TreeMap<>();

  private ModelTest(long seed) { random = new Random(seed); }

  public static void main(String[] args) throws Exception {
    for (Method m : LeafSweep.class.getDeclaredMethods()) if (Modifier.isPublic(m.getModifiers())) FACE.put(m.getName(), m);
    for (Method m : Model.class.getDeclaredMethods()) if (FACE.containsKey(m.getName()) && Modifier.isPublic(m.getModifiers())) { m.setAccessible(true); TWIN.put(m.getName(), m); }
    int runs = args.length > 0 ? Integer.parseInt(args[0]) : 6000;
    long from = args.length > 1 ? Long.parseLong(args[1]) : 1;
    for (long seed = from; seed < from + runs; seed++) {
      ModelTest run = new ModelTest(seed);
      if (!run.play()) {
        System.out.println("seed " + seed);
        run.log.forEach(System.out::println);
        System.exit(1);
      }
    }
    if (args.length > 0) SEEN.forEach((k, v) -> System.out.println(k + " " + v));
    System.out.println(runs + " runs are as in the model");
  }

  private boolean play() throws Exception {
    if (random.nextInt(20) > 0) if (!told(table(random.nextInt(6) == 0))) return false;
    int calls = 40 + random.nextInt(200);
    List<String> names = new ArrayList<>(FACE.keySet());
    names.remove("feed");
    names.remove("table");
    names.remove("work");
    for (int i = 0; i < calls; i++) {
      int dice = random.nextInt(100);
      if (dice == 0 && random.nextInt(3) == 0) { if (!told(table(random.nextInt(2) == 0))) return false; }
      else if (dice == 1) { if (!worked()) return false; }
      else if (dice < 50) { if (!both(DOING[random.nextInt(DOING.length)])) return false; }
      else if (!both(names.get(random.nextInt(names.size())))) return false;
    }
    return true;
  }

  private boolean both(String name) throws Exception {
    Class<?>[] types = FACE.get(name).getParameterTypes();
    Object[] a = new Object[types.length];
    for (int i = 0; i < a.length; i++) a[i] = argument(name, i);
    return same(name, a);
  }

  private boolean same(String name, Object... a) throws Exception {
    String got = answer(FACE.get(name), sweep, a), want = answer(TWIN.get(name), model, a);
    log.add(name + java.util.Arrays.toString(a) + " " + got + (got.equals(want) ? "" : " model: " + want));
    SEEN.computeIfAbsent(name, k -> new TreeMap<>()).merge(got.startsWith("-") || got.equals("false") || got.equals("true") || got.equals("0") || got.startsWith("throws") ? got : "n", 1, Integer::sum);
    return got.equals(want);
  }

  private static String answer(Method m, Object on, Object[] a) throws Exception {
    try { return String.valueOf(m.invoke(on, a)); } catch (InvocationTargetException e) { return "throws " + e.getCause().getClass().getName(); }
  }

  private static final int[] ODD = {-1, -2, 4, 30, 31, 32, 33, 999, 1000, 1001, Integer.MAX_VALUE, Integer.MIN_VALUE, -1000, 64, 100};

  private int small(int bound) { return random.nextInt(30) == 0 ? ODD[random.nextInt(ODD.length)] : random.nextInt(bound); }
  private int tree() { int n = model.told.names.size(); return small(n > 0 && random.nextInt(8) > 0 ? n : 5); }
  private int rowNumber() { int n = model.base.rows.size(); return small(n > 0 && random.nextInt(8) > 0 ? n : 31); }
  private int value() { return random.nextInt(12) == 0 ? small(1000) : small(9); }

  private Object argument(String name, int i) {
    switch (name) {
      case "row", "fits": return i == 0 ? rowNumber() : small(7);
      case "remove", "free": return rowNumber();
      case "change": return i == 0 ? rowNumber() : i == 1 ? small(3) : value();
      case "pointer", "drop", "needs": return i == 0 ? small(Math.max(3, model.base.pointers.size() + 1)) : small(3);
      case "insert", "would": return random.nextInt(4) == 0 ? small(1000) : value();
      case "point": return i == 0 ? small(3) : model.base.rows.size() > 0 && random.nextInt(4) > 0 ? model.base.rows.get(random.nextInt(model.base.rows.size()))[0] : value();
      case "begin": return i == 0 ? (random.nextInt(2) == 0 ? -1 : tree()) : i == 1 ? small(6) : 3 + small(900);
      case "leaf": return i == 0 ? tree() : small(6);
      case "rank", "when": return i == 0 ? tree() : rowNumber();
      case "found", "open", "skips", "splits": return i == 0 ? tree() : value();
      case "runs", "run", "merged": return i == 0 ? tree() : i == 1 ? 1 + small(8) : small(5);
      case "index", "lefts", "next", "costs": return i == 0 ? tree() : small(6);
      case "pack", "stale", "missing", "fill", "sparse", "turn": return tree();
      case "after": return i == 0 ? (random.nextInt(10) == 0 ? small(153) : small(30)) : small(4);
      case "during": return i == 0 ? (random.nextInt(10) == 0 ? small(153) : small(30)) : i == 4 ? small(3) : value();
      case "crashes": return i == 0 ? 1 + small(random.nextInt(3) == 0 ? 50 : 8) : 1 + small(8);
      case "record": return i == 0 ? small(6) : small(4);
      case "side": return small(6);
      default: return small(11);
    }
  }

  // ---- texts

  private boolean told(String text) throws Exception { return fed(text) && same("table"); }

  private boolean worked() throws Exception {
    String text = work();
    if (random.nextInt(3) == 0) text = spoilt(text);
    return fed(text) && same("work") && same("judged", 0) && same("judged", 1) && same("judged", 2);
  }

  private boolean fed(String text) throws Exception {
    byte[] b = text.getBytes("ISO-8859-1");
    for (int p = 0; p < b.length; p += 24) {
      long[] x = new long[3];
      for (int i = 0; i < 24; i++) x[i / 8] = x[i / 8] << 8 | (p + i < b.length ? b[p + i] & 255 : random.nextInt(2) * 130);
      log.add(text.substring(p, Math.min(p + 24, b.length)));
      if (!same("feed", x[0], x[1], x[2])) return false;
    }
    return true;
  }

  private String pick(String... words) { return words[random.nextInt(words.length)]; }
  private String column() { return pick("a", "b", "c"); }
  private String number(int bound) { return (random.nextInt(9) == 0 ? "0" : "") + random.nextInt(bound); }

  private String limit(boolean part) {
    String not = random.nextInt(5) == 0 ? "not " : "";
    int n = random.nextInt(part ? 4 : 6);
    int low = random.nextInt(6);
    switch (n) {
      case 0: return not + column() + " from " + low + " to " + (low + random.nextInt(8) - 1);
      case 1: return not + column() + " is " + number(9);
      case 2: return not + column() + " over " + column();
      case 3: return not + "every " + (2 + random.nextInt(8));
      case 4: return not + "twin " + column();
      default: return not + "pointed";
    }
  }

  private String where(boolean part) {
    StringBuilder s = new StringBuilder(limit(part));
    int more = random.nextInt(14) == 0 ? 9 + random.nextInt(5) : random.nextInt(4);
    for (int i = 0; i < more; i++) s.append(pick(" and ", " or ", " or ")).append(limit(part));
    return s.toString();
  }

  private String table(boolean spoil) {
    List<String> lines = new ArrayList<>();
    int indexes = random.nextInt(10) == 0 ? 0 : 1 + random.nextInt(4);
    if (spoil && random.nextInt(8) == 0) indexes = 5;
    boolean once = random.nextInt(3) == 0;
    List<String> head = new ArrayList<>();
    for (int i = 0; i < indexes; i++) head.add("index " + pick("x", "longname", "k", "q") + (char) ('k' + i) + " " + (once ? pick("plain", "down", "once", "partial") : pick("plain", "down", "partial")) + " on " + column());
    if (!spoil) for (int i = 0; i < head.size(); i++) head.set(i, head.get(i).replace("longname", "longnam"));
    int rows = random.nextInt(8) == 0 ? 0 : 1 + random.nextInt(spoil ? 22 : 20);
    List<String> body = new ArrayList<>();
    int spread = 3 + random.nextInt(10);
    for (int i = 0; i < rows; i++) {
      String own = " " + (i * 7 % 20 + (random.nextInt(15) == 0 ? 1 : 0));
      body.add("row" + (once ? own + own + own : " " + random.nextInt(spread) + " " + random.nextInt(spread) + " " + random.nextInt(spread)));
    }
    if (!once && random.nextInt(3) == 0) body.replaceAll(s -> "row " + random.nextInt(1000) + " " + random.nextInt(40) + " " + random.nextInt(spread));
    int points = rows == 0 ? 0 : random.nextInt(spoil ? 10 : 5);
    for (int i = 0; i < points; i++) {
      int at = random.nextInt(rows);
      String a = body.get(at).split(" ")[1];
      body.add("point " + pick("firm", "loose", "bound", "loose", "bound") + " at " + (spoil && random.nextInt(9) == 0 ? number(50) : a));
    }
    lines.addAll(head);
    lines.addAll(body);
    if (random.nextInt(3) > 0) lines.add(random.nextInt(lines.size() + 1), "page " + (random.nextInt(2) == 0 ? 2 : 2 + random.nextInt(7)));
    if (random.nextInt(3) > 0) lines.add(random.nextInt(lines.size() + 1), "batch " + (1 + random.nextInt(8)));
    if (random.nextInt(5) > 0) lines.add(random.nextInt(lines.size() + 1), "choose " + where(false));
    if (random.nextInt(2) > 0) lines.add(random.nextInt(lines.size() + 1), "part " + where(true));
    StringBuilder s = new StringBuilder();
    for (String l : lines) s.append(l).append(pick(";", " ;", " ; ", ";\n"));
    return spoil ? spoilt(s.toString()) : s.toString();
  }

  private String spoilt(String text) {
    for (int n = random.nextInt(3); n > 0; n--) {
      int p = random.nextInt(text.length() + 1);
      String bit = pick("a", "row ", ";", " 12345", "0", " 1000 ", "Q", " 9", "not ", "or ", " and every 1", "index ", "zz", " ", "\n", "page", "point firm at 1;", " abcdefghi ", "1", "99", "part a is 1;", "twin a", " pointed ", "from", "every");
      int q = Math.min(text.length(), p + random.nextInt(4));
      text = text.substring(0, p) + (random.nextInt(4) == 0 ? "" : bit) + text.substring(random.nextInt(2) == 0 ? p : q);
    }
    return random.nextInt(6) == 0 ? text.substring(0, random.nextInt(text.length() + 1)) : text;
  }

  private String work() {
    StringBuilder s = new StringBuilder();
    int lines = random.nextInt(15) == 0 ? 38 + random.nextInt(5) : random.nextInt(20);
    for (int i = 0; i < lines; i++) {
      switch (random.nextInt(12)) {
        case 0: case 1: s.append("insert ").append(number(30)).append(' ').append(number(30)).append(' ').append(number(30)); break;
        case 2: s.append("remove ").append(number(24)); break;
        case 3: case 4: s.append("change ").append(number(22)).append(column()).append(' ').append(number(30)); break;
        case 5: case 6: s.append("begin"); break;
        case 7: case 8: s.append("step ").append(1 + random.nextInt(random.nextInt(3) == 0 ? 99 : 6)); break;
        case 9: s.append(pick("stop", "crash", "crash;resume", "crash ; stop ; resume")); break;
        case 10: s.append(pick("resume", "stop")); break;
        default: s.append("pack ").append(model.told.names.isEmpty() || random.nextInt(9) == 0 ? "other" : model.told.names.get(random.nextInt(model.told.names.size())));
      }
      s.append(pick(";", " ; ", ";\n"));
    }
    return s.toString();
  }
}
