import java.lang.reflect.InvocationTargetException;
import java.lang.reflect.Method;
import java.util.ArrayList;
import java.util.Arrays;
import java.util.Comparator;
import java.util.List;
import java.util.NoSuchElementException;

/** What the tests of single sentences share: each is a method promiseN_whatItSays of a Bounds..Test. */
abstract class Bounds {
  static final int LOW = Integer.MIN_VALUE;
  static final int HIGH = Integer.MAX_VALUE;

  /** The tests of a class, in the order of the promises. */
  static List<Method> testsOf(Class<?> tests) {
    List<Method> list = new ArrayList<>();
    for (Method m : tests.getDeclaredMethods()) if (m.getName().matches("promise\\d+_\\w+")) list.add(m);
    list.sort(Comparator.comparing(Bounds::promiseOf).thenComparing(Method::getName));
    return list;
  }

  static int promiseOf(Method test) { return Integer.parseInt(test.getName().replaceAll("promise(\\d+)_.*", "$1")); }

  static void run(Class<?> tests) throws Exception {
    List<Method> all = testsOf(tests);
    for (Method m : all) {
      Due.in(m.getName());
      try { m.invoke(null); } catch (InvocationTargetException e) { Due.due("it threw " + e.getCause() + " at " + Arrays.toString(e.getCause().getStackTrace()), true, false); }
    }
    Due.in("");
    System.out.println(all.size() + " tests of " + tests.getName());
    Due.end();
  }

  static void is(String what, long got, long want) { Due.due(what, got, want); }
  static void is(String what, boolean got, boolean want) { Due.due(what, got, want); }
  static void is(String what, String got, String want) { Due.due(what, got, want); }

  static LeafSweep told(String text) { return Due.told(text); }
  static String leaves(LeafSweep x, int index) { return Due.leaves(x, index); }

  /** begin of all, which must be so many. */
  static LeafSweep begun(String text, int chosen) {
    LeafSweep x = told(text);
    is("begin of all", x.begin(-1, 0, 0), chosen);
    return x;
  }

  static void steps(LeafSweep x, int n) { for (int i = 0; i < n; i++) x.step(); }

  /** The rows that the steps take, up to one that answers none: "0 2 1 -2". */
  static String stepped(LeafSweep x) {
    StringBuilder s = new StringBuilder();
    for (int r = x.step(); r != -1; r = x.step()) s.append(s.length() > 0 ? " " : "").append(r);
    return s.toString();
  }

  /** RANK, or -7 for the exception that the document names. */
  static int rank(LeafSweep x, int index, int row) {
    try { return x.rank(index, row); } catch (NoSuchElementException e) { return -7; }
  }

  /** n rows with a upwards from 0, or downwards to 0; b and c are 0. */
  static String up(int n) { StringBuilder s = new StringBuilder(); for (int i = 0; i < n; i++) s.append("row ").append(i).append(" 0 0;"); return s.toString(); }
  static String downwards(int n) { StringBuilder s = new StringBuilder(); for (int i = n - 1; i >= 0; i--) s.append("row ").append(i).append(" 0 0;"); return s.toString(); }

  /** What can be seen of an object and can be undone, asked in few calls. */
  static String sight(LeafSweep x) {
    StringBuilder s = new StringBuilder();
    for (int w : new int[] {0, 1, 2, 3, 4, 5, 6}) s.append(x.count(w)).append(' ');
    for (int r = 0; r < x.count(3); r++) s.append('r').append(x.row(r, 0)).append(' ').append(x.row(r, 1)).append(' ').append(x.row(r, 2)).append(' ').append(x.row(r, 3)).append(x.row(r, 4)).append(x.row(r, 5));
    for (int p = 0; p < x.count(5); p++) s.append('p').append(x.pointer(p, 0)).append(' ').append(x.pointer(p, 1));
    for (int i = 0; i < x.count(2); i++) s.append('i').append(leaves(x, i)).append('/').append(x.stale(i)).append(' ').append(x.missing(i));
    for (int w = 0; w < 7; w++) s.append('j').append(x.job(w));
    for (int k = 0; k < x.job(4); k++) s.append('k').append(x.record(k, 0)).append(' ').append(x.record(k, 1)).append(' ').append(x.record(k, 2));
    for (int k = 0; k < x.job(6); k++) s.append('s').append(x.side(k));
    for (int w = 0; w < 4; w++) s.append('a').append(x.after(1, w)).append(' ').append(x.after(150, w));
    return s.append('c').append(x.crashes(2, 2)).toString();
  }
}
