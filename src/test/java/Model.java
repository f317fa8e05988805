import java.util.ArrayList;
import java.util.Arrays;
import java.util.Collections;
import java.util.Comparator;
import java.util.HashSet;
import java.util.List;
import java.util.NoSuchElementException;
import java.util.PriorityQueue;
import java.util.Set;
import java.util.TreeSet;

/**
 * The document once more, told as slowly and as literally as can be, with lists and objects:
 * what LeafSweep answers is compared with this (ModelTest).
 */
final class Model {
  // ---------------------------------------------------------------- what is told
  record Limit(boolean not, String sort, int column, int x, int y) { }

  static final class Told {
    int page = 4, batch = 2;
    final List<String> names = new ArrayList<>();
    final List<Integer> kinds = new ArrayList<>();
    final List<Integer> columns = new ArrayList<>();
    final List<int[]> rows = new ArrayList<>();
    final List<int[]> points = new ArrayList<>();
    List<List<Limit>> choose = null, part = null;
  }

  record Line(String word, int[] numbers) { }

  static final class Fault extends RuntimeException {
    private static final long serialVersionUID = 1L;
    final int number;
    Fault(int kind, int place) { super("fault"); number = kind + 16 * place; }
  }

  record Token(char sort, String text, int place) { }

  static List<Token> tokens(String text) {
    List<Token> list = new ArrayList<>();
    int p = 0;
    while (p < text.length()) {
      char c = text.charAt(p);
      int e = p;
      if (c == ' ' || c == '\n') { p++; continue; }
      if (c >= 'a' && c <= 'z') {
        while (e < text.length() && text.charAt(e) >= 'a' && text.charAt(e) <= 'z') e++;
        list.add(new Token(e - p <= 8 ? 'w' : '?', text.substring(p, e), p));
      } else if (c >= '0' && c <= '9') {
        while (e < text.length() && text.charAt(e) >= '0' && text.charAt(e) <= '9') e++;
        list.add(new Token(e - p <= 4 ? 'n' : '?', text.substring(p, e), p));
      } else {
        e = p + 1;
        list.add(new Token(c == ';' ? ';' : '?', text.substring(p, e), p));
      }
      p = e;
    }
    list.add(new Token('$', "", text.length()));
    return list;
  }

  static final List<String> KINDS = List.of("plain", "down", "once", "partial");
  static final List<String> SORTS = List.of("firm", "loose", "bound");
  static final List<String> COLS = List.of("a", "b", "c");
  static final Set<String> KEPT = new HashSet<>(Arrays.asList(("page, batch, index, on, row, point, at, choose, part, insert, remove, change, "
      + "begin, step, stop, crash, resume, pack, plain, down, once, partial, firm, loose, bound, a, b, c, from, to, is, over, every, twin, pointed, not, and, or").split(", ")));

  static final class Parse {
    final List<Token> list;
    int i = 0;
    Parse(String text) { list = tokens(text); }
    Token t() { return list.get(i); }
    boolean is(String word) { return t().sort() == 'w' && t().text().equals(word); }
    Fault bad(int kind) { return new Fault(kind, t().place()); }
    void need(String word) { if (!is(word)) throw bad(1); i++; }
    void mark() { if (t().sort() != ';') throw bad(1); i++; }
    int oneOf(List<String> words) {
      if (t().sort() != 'w' || !words.contains(t().text())) throw bad(1);
      return words.indexOf(list.get(i++).text());
    }
    int peekNumber() { if (t().sort() != 'n') throw bad(1); return Integer.parseInt(t().text()); }
    int number(int low, int high) {
      int n = peekNumber();
      if (n < low || n > high) throw bad(4);
      i++;
      return n;
    }
    String name() {
      if (t().sort() != 'w' || KEPT.contains(t().text())) throw bad(1);
      return t().text();
    }
  }

  static Told readTable(String text) {
    Parse p = new Parse(text);
    Told told = new Told();
    Set<String> been = new HashSet<>();
    while (p.t().sort() != '$') {
      String word = p.t().sort() == 'w' ? p.t().text() : "";
      switch (word) {
        case "page", "batch", "choose", "part" -> { if (!been.add(word)) throw p.bad(3); }
        case "index" -> { if (!told.rows.isEmpty()) throw p.bad(1); if (told.names.size() == 4) throw p.bad(5); }
        case "row" -> { if (told.rows.size() == 20) throw p.bad(5); }
        case "point" -> { if (told.points.size() == 8) throw p.bad(5); }
        default -> throw p.bad(1);
      }
      p.i++;
      switch (word) {
        case "page" -> told.page = p.number(2, 8);
        case "batch" -> told.batch = p.number(1, 8);
        case "choose" -> told.choose = where(p, false);
        case "part" -> told.part = where(p, true);
        case "index" -> {
          if (told.names.contains(p.name())) throw p.bad(3);
          told.names.add(p.name());
          p.i++;
          told.kinds.add(p.oneOf(KINDS));
          p.need("on");
          told.columns.add(p.oneOf(COLS));
        }
        case "row" -> {
          int[] row = new int[3];
          for (int c = 0; c < 3; c++) {
            int n = p.peekNumber();
            for (int k = 0; k < told.kinds.size(); k++) {
              if (told.kinds.get(k) == 2 && told.columns.get(k) == c) for (int[] r : told.rows) if (r[c] == n) throw p.bad(3);
            }
            row[c] = p.number(0, 999);
          }
          told.rows.add(row);
        }
        default -> {
          int sort = p.oneOf(SORTS);
          p.need("at");
          int n = p.peekNumber();
          if (told.rows.stream().noneMatch(r -> r[0] == n)) throw p.bad(2);
          told.points.add(new int[] {sort, p.number(0, 999)});
        }
      }
      p.mark();
    }
    return told;
  }

  static List<List<Limit>> where(Parse p, boolean part) {
    List<List<Limit>> groups = new ArrayList<>();
    groups.add(new ArrayList<>());
    int limits = 0;
    while (true) {
      boolean not = false;
      Set<String> start = new HashSet<>(part ? Set.of("a", "b", "c", "every") : Set.of("a", "b", "c", "every", "twin", "pointed"));
      if (p.t().sort() != 'w' || !(p.is("not") || start.contains(p.t().text()))) throw p.bad(1);
      if (++limits > 12) throw p.bad(5);
      if (p.is("not")) {
        not = true;
        p.i++;
        if (p.t().sort() != 'w' || !start.contains(p.t().text())) throw p.bad(1);
      }
      groups.get(groups.size() - 1).add(limit(p, not));
      if (p.is("and")) p.i++;
      else if (p.is("or")) { p.i++; groups.add(new ArrayList<>()); }
      else return groups;
    }
  }

  static Limit limit(Parse p, boolean not) {
    if (p.is("every")) { p.i++; return new Limit(not, "every", 0, p.number(2, 9), 0); }
    if (p.is("twin")) { p.i++; return new Limit(not, "twin", p.oneOf(COLS), 0, 0); }
    if (p.is("pointed")) { p.i++; return new Limit(not, "pointed", 0, 0, 0); }
    int column = p.oneOf(COLS);
    switch (p.oneOf(List.of("from", "is", "over"))) {
      case 0: {
        int low = p.number(0, 999);
        p.need("to");
        return new Limit(not, "from", column, low, p.number(0, 999));
      }
      case 1: return new Limit(not, "is", column, p.number(0, 999), 0);
      default: return new Limit(not, "over", column, p.oneOf(COLS), 0);
    }
  }

  static List<Line> readWork(String text, Told told) {
    Parse p = new Parse(text);
    List<Line> lines = new ArrayList<>();
    while (p.t().sort() != '$') {
      String word = p.t().sort() == 'w' ? p.t().text() : "";
      if (!List.of("insert", "remove", "change", "begin", "step", "stop", "crash", "resume", "pack").contains(word)) throw p.bad(1);
      if (lines.size() == 40) throw p.bad(5);
      p.i++;
      int[] n = new int[3];
      switch (word) {
        case "insert" -> { for (int k = 0; k < 3; k++) n[k] = p.number(0, 999); }
        case "remove" -> n[0] = p.number(0, 29);
        case "change" -> { n[0] = p.number(0, 29); n[1] = p.oneOf(COLS); n[2] = p.number(0, 999); }
        case "step" -> n[0] = p.number(1, 99);
        case "pack" -> {
          if (!told.names.contains(p.name())) throw p.bad(2);
          n[0] = told.names.indexOf(p.name());
          p.i++;
        }
        default -> { }
      }
      p.mark();
      lines.add(new Line(word, n));
    }
    return lines;
  }

  // ---------------------------------------------------------------- what can be undone
  record Entry(int value, int row) { }
  record Aside(boolean put, Entry entry) { }

  static final class Base {
    final Told told;
    final List<int[]> rows = new ArrayList<>();
    final Set<Integer> there = new TreeSet<>(), chosen = new TreeSet<>();
    final List<int[]> pointers = new ArrayList<>(); // sort, where, what BEGIN changed (-1: nothing)
    final List<List<List<Entry>>> leaves = new ArrayList<>();
    boolean on = false, down = false;
    int at = 0, way = 0, since = 0, taken = 0, spent = 0, batch;
    List<List<Entry>> stand = null;
    final List<int[]> records = new ArrayList<>();
    final List<Aside> aside = new ArrayList<>();

    Base(Told told) {
      this.told = told;
      batch = told.batch;
      for (int k = 0; k < told.names.size(); k++) leaves.add(new ArrayList<>());
      for (int[] r : told.rows) {
        int n = rows.size();
        rows.add(r.clone());
        there.add(n);
        for (int k = 0; k < leaves.size(); k++) if (belongs(k, n)) put(k, entry(k, n));
      }
      for (int[] p : told.points) pointers.add(new int[] {p[0], p[1], -1});
    }

    Base(Base o) {
      told = o.told;
      batch = o.batch;
      for (int[] r : o.rows) rows.add(r.clone());
      there.addAll(o.there);
      chosen.addAll(o.chosen);
      for (int[] p : o.pointers) pointers.add(p.clone());
      for (List<List<Entry>> index : o.leaves) leaves.add(copy(index));
      on = o.on; down = o.down; at = o.at; way = o.way; since = o.since; taken = o.taken; spent = o.spent;
      stand = o.stand == null ? null : copy(o.stand);
      for (int[] r : o.records) records.add(r.clone());
      aside.addAll(o.aside);
    }

    static List<List<Entry>> copy(List<List<Entry>> index) {
      List<List<Entry>> c = new ArrayList<>();
      for (List<Entry> leaf : index) c.add(new ArrayList<>(leaf));
      return c;
    }

    Comparator<Entry> order(int k) {
      Comparator<Entry> byValue = Comparator.comparing(Entry::value);
      if (told.kinds.get(k) == 1) byValue = byValue.reversed();
      return byValue.thenComparing(Entry::row);
    }

    Set<Integer> visible() { Set<Integer> v = new TreeSet<>(there); v.removeAll(chosen); return v; }
    Entry entry(int k, int row) { return new Entry(rows.get(row)[told.columns.get(k)], row); }
    boolean belongs(int k, int row) { return told.kinds.get(k) != 3 || isSo(told.part, row); }

    boolean otherVisible(int row, int column, int value) {
      for (int r : visible()) if (r != row && rows.get(r)[column] == value) return true;
      return false;
    }

    boolean isSo(List<List<Limit>> where, int row) {
      if (where == null) return true;
      for (List<Limit> group : where) if (group.stream().allMatch(l -> isSo(l, row) != l.not())) return true;
      return false;
    }

    boolean isSo(Limit l, int row) {
      int[] v = rows.get(row);
      return switch (l.sort()) {
        case "from" -> l.x() <= v[l.column()] && v[l.column()] <= l.y();
        case "is" -> v[l.column()] == l.x();
        case "over" -> v[l.column()] > v[l.x()];
        case "every" -> row % l.x() == 0;
        case "twin" -> otherVisible(row, l.column(), v[l.column()]);
        default -> pointers.stream().anyMatch(p -> p[1] == v[0]);
      };
    }

    int height(int k) {
      int n = leaves.get(k).size(), h = 0;
      while (n > 1) { n = n / told.page + (n % told.page > 0 ? 1 : 0); h++; }
      return h;
    }

    void put(int k, Entry e) {
      List<List<Entry>> index = leaves.get(k);
      if (index.isEmpty()) index.add(new ArrayList<>());
      int best = 0;
      for (int i = 0; i < index.size(); i++) if (!index.get(i).isEmpty() && order(k).compare(index.get(i).get(0), e) < 0) best = i;
      List<Entry> leaf = index.get(best);
      leaf.add(e);
      leaf.sort(order(k));
      if (leaf.size() > told.page) {
        List<Entry> tail = leaf.subList(leaf.size() - (told.page + 1) / 2, leaf.size());
        index.add(best + 1, new ArrayList<>(tail));
        tail.clear();
      }
    }

    void take(int k, Entry e) {
      for (List<Entry> leaf : leaves.get(k)) leaf.remove(e);
      leaves.get(k).removeIf(List::isEmpty);
    }

    List<Entry> all(int k) { List<Entry> l = new ArrayList<>(); for (List<Entry> leaf : leaves.get(k)) l.addAll(leaf); return l; }

    Set<Integer> wouldChoose(int k, int low, int high) {
      Set<Integer> set = new TreeSet<>();
      for (int r : visible()) {
        boolean in = k == -1 || all(k).stream().anyMatch(e -> e.row() == r) && rows.get(r)[told.columns.get(k)] >= low && rows.get(r)[told.columns.get(k)] <= high;
        if (in && isSo(told.choose, r)) set.add(r);
      }
      return set;
    }

    Set<Integer> going() { return on ? chosen : wouldChoose(-1, 0, 0); }
    List<Entry> left(int k, Set<Integer> set) { List<Entry> l = all(k); l.removeIf(e -> !set.contains(e.row())); return l; }
    List<Entry> left(int k) { return left(k, going()); }

    int pass(int k, Set<Integer> set) {
      List<Integer> with = new ArrayList<>();
      for (int i = 0; i < leaves.get(k).size(); i++) if (leaves.get(k).get(i).stream().anyMatch(e -> set.contains(e.row()))) with.add(i);
      return with.isEmpty() ? 0 : height(k) + with.get(with.size() - 1) - with.get(0) + 1 + with.size();
    }

    int probing(int k, Set<Integer> set) { return left(k, set).size() * (height(k) + 2); }
    int way(int k, Set<Integer> set) { return pass(k, set) <= probing(k, set) ? 0 : 1; }

    List<Entry> going(int k) {
      List<Entry> l = left(k);
      int w = on && at == k ? way : way(k, going());
      l.sort(w == 0 ? order(k) : Comparator.comparing(Entry::row));
      return l;
    }

    // ---- INSERT, REMOVE, CHANGE
    boolean onceHas(int k, int value, int but) { return told.kinds.get(k) == 2 && otherVisible(but, told.columns.get(k), value); }

    int insert(int a, int b, int c) {
      int[] v = {a, b, c};
      if (rows.size() == 30) return -1;
      for (int k = 0; k < leaves.size(); k++) if (onceHas(k, v[told.columns.get(k)], -1)) return -1;
      int n = rows.size();
      List<Entry> old = none();
      rows.add(v);
      there.add(n);
      if (!move(old, entries(n))) { rows.remove(n); there.remove(n); return -1; }
      return n;
    }

    boolean canRemove(int row) { return new Base(this).remove(row); }

    boolean remove(int row) {
      if (!visible().contains(row)) return false;
      int a = rows.get(row)[0];
      boolean other = otherVisible(row, 0, a);
      if (!other && pointers.stream().anyMatch(p -> p[0] == 0 && p[1] == a)) return false;
      if (!move(entries(row), none())) return false;
      there.remove(row);
      if (!other) for (int[] p : pointers) if (p[1] == a) p[1] = p[0] == 1 ? -1 : -2;
      return true;
    }

    boolean change(int row, int column, int value) {
      if (!visible().contains(row)) return false;
      int old = rows.get(row)[column];
      if (old != value) {
        for (int k = 0; k < leaves.size(); k++) if (told.columns.get(k) == column && onceHas(k, value, row)) return false;
        if (column == 0 && pointers.stream().anyMatch(p -> p[1] == old) && !otherVisible(row, 0, old)) return false;
      }
      List<Entry> was = entries(row);
      rows.get(row)[column] = value;
      if (!move(was, entries(row))) { rows.get(row)[column] = old; return false; }
      return true;
    }

    List<Entry> none() { return new ArrayList<>(Collections.nCopies(leaves.size(), null)); }
    List<Entry> entries(int row) { List<Entry> l = none(); for (int k = 0; k < l.size(); k++) if (belongs(k, row)) l.set(k, entry(k, row)); return l; }

    boolean move(List<Entry> was, List<Entry> is) {
      List<Aside> more = new ArrayList<>();
      for (int pass = 0; pass < 2; pass++) {
        for (int k = 0; k < leaves.size(); k++) {
          Entry o = was.get(k), n = is.get(k);
          if (o == null ? n == null : o.equals(n)) continue;
          if (on && at == k) {
            if (pass == 0) { if (o != null) more.add(new Aside(false, o)); if (n != null) more.add(new Aside(true, n)); }
          } else if (pass == 1) {
            if (o != null) { spent += height(k) + 2; take(k, o); }
            if (n != null) { spent += height(k) + 2; put(k, n); }
          }
        }
        if (aside.size() + more.size() > 40) return false;
      }
      aside.addAll(more);
      spent += more.size();
      return true;
    }

    // ---- POINT, DROP
    int point(int sort, int value) {
      if (pointers.size() == 12 || !otherVisible(-1, 0, value)) return -1;
      pointers.add(new int[] {sort, value, -1});
      return pointers.size() - 1;
    }

    boolean drop(int p) {
      if (pointers.get(p)[1] == -2) return false;
      pointers.get(p)[1] = -2;
      pointers.get(p)[2] = -1;
      return true;
    }

    // ---- the JOB
    Set<Integer> hinders(Set<Integer> set) {
      Set<Integer> h = new TreeSet<>();
      Set<Integer> stays = visible();
      stays.removeAll(set);
      for (int p = 0; p < pointers.size(); p++) {
        int v = pointers.get(p)[1];
        if (pointers.get(p)[0] == 0 && set.stream().anyMatch(r -> rows.get(r)[0] == v) && stays.stream().noneMatch(r -> rows.get(r)[0] == v)) h.add(p);
      }
      return h;
    }

    boolean begin(int k, int low, int high) {
      if (on) return false;
      Set<Integer> set = wouldChoose(k, low, high);
      if (set.isEmpty() || !hinders(set).isEmpty()) return false;
      on = true; down = false; since = 0;
      records.clear();
      aside.clear();
      chosen.addAll(set);
      for (int[] p : pointers) {
        p[2] = -1;
        if (p[1] >= 0 && !otherVisible(-1, 0, p[1])) { p[2] = p[1]; p[1] = p[0] == 1 ? -1 : -2; }
      }
      come(0);
      return true;
    }

    void come(int from) {
      int k = from;
      while (k < leaves.size() && left(k).isEmpty()) k++;
      if (k >= leaves.size()) { at = 4; way = -1; stand = null; return; }
      at = k;
      way = way(k, chosen);
      spent += way == 0 ? pass(k, chosen) : probing(k, chosen);
      taken = 0;
      stand = copy(leaves.get(k));
    }

    int step() {
      if (!on || down) return -1;
      if (at == 4) { there.removeAll(chosen); over(); return -2; }
      Entry e = going(at).get(0);
      take(at, e);
      since++;
      taken++;
      if (since >= batch || left(at).isEmpty()) {
        spent++;
        since = 0;
        records.add(new int[] {at, taken, spent});
        stand = copy(leaves.get(at));
        if (left(at).isEmpty()) { carry(); come(at + 1); }
      }
      return e.row();
    }

    void carry() {
      for (Aside s : aside) { spent += height(at) + 2; if (s.put()) put(at, s.entry()); else take(at, s.entry()); }
      aside.clear();
    }

    void over() { on = false; chosen.clear(); records.clear(); aside.clear(); since = 0; for (int[] p : pointers) p[2] = -1; }

    boolean stop() {
      if (!on || down || !records.isEmpty() || since > 0) return false;
      for (int k = 0; k < leaves.size(); k++) {
        Set<Integer> seen = new HashSet<>();
        for (int r : there) if (told.kinds.get(k) == 2 && !seen.add(rows.get(r)[told.columns.get(k)])) return false;
      }
      if (at != 4) carry();
      for (int[] p : pointers) if (p[2] != -1) p[1] = p[2];
      over();
      return true;
    }

    int crash() {
      if (!on || down) return -1;
      int n = since;
      if (at != 4) leaves.set(at, copy(stand));
      taken -= since;
      since = 0;
      down = true;
      return n;
    }

    boolean resume() {
      if (!on || !down) return false;
      down = false;
      if (at != 4) spent += way == 0 ? pass(at, chosen) : probing(at, chosen);
      return true;
    }

    int pack(int k) {
      if (on && at == k) return -1;
      List<List<Entry>> index = leaves.get(k);
      int ahead = index.size();
      spent += ahead;
      for (int i = 0; i < index.size(); i++) {
        while (i + 1 < index.size() && index.get(i).size() + index.get(i + 1).size() <= told.page) index.get(i).addAll(index.remove(i + 1));
      }
      return ahead - index.size();
    }

    int allLeaves() { int n = 0; for (List<List<Entry>> index : leaves) n += index.size(); return n; }
    Base risen() { Base b = new Base(this); b.resume(); return b; }
  }

  // ---------------------------------------------------------------- the face
  final StringBuilder tape = new StringBuilder();
  Told told = new Told();
  Base base = new Base(told);
  List<Line> lines = new ArrayList<>();
  final List<Base> undo = new ArrayList<>();
  int cursor = -1, cursorKey = 0;
  Entry fetched = null;

  static int bits(Iterable<Integer> set) { int b = 0; for (int r : set) b |= 1 << r; return b; }
  boolean isIndex(int k) { return k >= 0 && k < base.leaves.size(); }
  static boolean ok(int... v) { for (int x : v) if (x < 0 || x > 999) return false; return true; }
  String taken() { String s = tape.toString(); tape.setLength(0); return s; }

  private Base before;
  private void keep() { before = new Base(base); }
  private boolean did(boolean done) {
    if (done) { undo.add(before); if (undo.size() > 16) undo.remove(0); }
    return done;
  }

  public int feed(long a, long b, long c) {
    for (long x : new long[] {a, b, c}) for (int i = 7; i >= 0; i--) {
      int s = (int) (x >>> (8 * i)) & 255;
      if ((s == 10 || s >= 32 && s <= 126) && tape.length() < 1000) tape.append((char) s);
    }
    return tape.length();
  }

  public int table() {
    try { told = readTable(taken()); } catch (Fault f) { return f.number; }
    base = new Base(told);
    lines = new ArrayList<>();
    undo.clear();
    cursor = -1;
    return 0;
  }

  public int work() {
    try { lines = readWork(taken(), told); } catch (Fault f) { return f.number; }
    return 0;
  }

  public int row(int row, int what) {
    if (row < 0 || row >= base.rows.size()) return -1;
    switch (what) {
      case 0, 1, 2: return base.rows.get(row)[what];
      case 3: return base.there.contains(row) ? 1 : 0;
      case 4: return base.chosen.contains(row) ? 1 : 0;
      case 5: { int b = 0; for (int k = 0; k < base.leaves.size(); k++) for (Entry e : base.all(k)) if (e.row() == row) b |= 1 << k; return b; }
      default: return -1;
    }
  }

  public int index(int index, int what) {
    if (!isIndex(index)) return -1;
    return switch (what) {
      case 0 -> told.kinds.get(index);
      case 1 -> told.columns.get(index);
      case 2 -> base.all(index).size();
      case 3 -> base.leaves.get(index).size();
      case 4 -> base.height(index);
      default -> -1;
    };
  }

  public int leaf(int index, int k, int i) {
    if (!isIndex(index) || k < 0 || k >= base.leaves.get(index).size()) return -1;
    List<Entry> leaf = base.leaves.get(index).get(k);
    return i < 0 || i >= leaf.size() ? -1 : leaf.get(i).row();
  }

  public int pointer(int pointer, int what) {
    if (pointer < 0 || pointer >= base.pointers.size() || what < 0 || what > 1) return -3;
    return base.pointers.get(pointer)[what];
  }

  public int insert(int a, int b, int c) { if (!ok(a, b, c)) return -1; keep(); int n = base.insert(a, b, c); did(n != -1); return n; }
  public boolean remove(int row) { keep(); return did(base.remove(row)); }
  public boolean change(int row, int column, int value) { keep(); return column >= 0 && column <= 2 && ok(value) && did(base.change(row, column, value)); }
  public int point(int sort, int value) { if (sort < 0 || sort > 2 || !ok(value)) return -1; keep(); int n = base.point(sort, value); did(n != -1); return n; }
  public boolean drop(int pointer) { keep(); return pointer >= 0 && pointer < base.pointers.size() && did(base.drop(pointer)); }

  public int begin(int index, int low, int high) {
    if (index != -1 && !isIndex(index)) return -1;
    keep();
    return did(base.begin(index, low, high)) ? base.chosen.size() : -1;
  }

  public int step() { keep(); int n = base.step(); did(n != -1); return n; }
  public boolean stop() { keep(); return did(base.stop()); }
  public int crash() { int n = base.crash(); if (n != -1) undo.clear(); return n; }
  public int resume() { keep(); return did(base.resume()) ? base.at == 4 ? 0 : base.left(base.at).size() : -1; }
  public int pack(int index) { if (!isIndex(index)) return -1; keep(); int n = base.pack(index); did(n != -1); return n; }
  public boolean undo() { if (undo.isEmpty()) return false; base = undo.remove(undo.size() - 1); return true; }

  public int judged(int what) {
    if (what < 0 || what > 2) return -2;
    Base b = new Base(told);
    int bad = -1;
    for (int i = 0; i < lines.size(); i++) {
      int[] n = lines.get(i).numbers();
      boolean can = true;
      switch (lines.get(i).word()) {
        case "insert" -> can = b.insert(n[0], n[1], n[2]) != -1;
        case "remove" -> can = b.remove(n[0]);
        case "change" -> can = b.change(n[0], n[1], n[2]);
        case "begin" -> can = b.begin(-1, 0, 0);
        case "step" -> { for (int k = 0; k < n[0]; k++) if (b.step() == -1) can = false; }
        case "stop" -> can = b.stop();
        case "crash" -> can = b.crash() != -1;
        case "resume" -> can = b.resume();
        default -> can = b.pack(n[0]) != -1;
      }
      if (!can && bad == -1) bad = i;
    }
    return what == 0 ? bad : what == 1 ? b.visible().size() : b.spent;
  }

  public int found(int index, int key) {
    if (!isIndex(index)) return -1;
    Set<Integer> s = base.visible();
    s.removeIf(r -> !base.belongs(index, r) || base.entry(index, r).value() != key);
    return bits(s);
  }

  public boolean open(int index, int key) {
    if (!isIndex(index)) return false;
    cursor = index; cursorKey = key; fetched = null;
    return true;
  }

  public int fetch() {
    if (cursor == -1) return -1;
    List<Entry> l = new ArrayList<>();
    for (int r : base.visible()) if (base.belongs(cursor, r)) l.add(base.entry(cursor, r));
    l.sort(base.order(cursor));
    for (Entry e : l) {
      boolean ahead = told.kinds.get(cursor) == 1 ? e.value() > cursorKey : e.value() < cursorKey;
      if (ahead || fetched != null && base.order(cursor).compare(e, fetched) <= 0) continue;
      fetched = e;
      return e.row();
    }
    return -1;
  }

  public int rank(int index, int row) {
    if (!isIndex(index) || !base.visible().contains(row) || !base.belongs(index, row)) throw new NoSuchElementException();
    int n = 0;
    for (int r : base.visible()) if (base.belongs(index, r) && base.order(index).compare(base.entry(index, r), base.entry(index, row)) < 0) n++;
    return n;
  }

  boolean isStale(int k, Entry e) { return !base.there.contains(e.row()) || base.entry(k, e.row()).value() != e.value() || !base.belongs(k, e.row()); }

  public int skips(int index, int key) {
    if (!isIndex(index)) return -1;
    int n = 0;
    for (Entry e : base.all(index)) if (e.value() == key && (base.chosen.contains(e.row()) || isStale(index, e))) n++;
    return n;
  }

  public int stale(int index) { if (!isIndex(index)) return -1; int b = 0; for (Entry e : base.all(index)) if (isStale(index, e)) b |= 1 << e.row(); return b; }
  public int missing(int index) { if (!isIndex(index)) return -1; Set<Integer> s = base.visible(); s.removeIf(r -> !base.belongs(index, r) || base.all(index).contains(base.entry(index, r))); return bits(s); }

  public int side(int i) {
    if (i < 0 || i >= base.aside.size()) return Integer.MIN_VALUE;
    Aside s = base.aside.get(i);
    return 1000 * s.entry().row() + s.entry().value() - (s.put() ? 0 : 40000);
  }

  public boolean splits(int index, int key) {
    if (!isIndex(index) || !ok(key)) return false;
    Base b = new Base(base);
    int n = b.leaves.get(index).size();
    b.put(index, new Entry(key, b.rows.size()));
    return n > 0 && b.leaves.get(index).size() > n;
  }

  public int fill(int index) { if (!isIndex(index)) return -1; int n = base.leaves.get(index).size(); return n == 0 ? 0 : 100 * base.all(index).size() / (n * told.page); }
  public int sparse(int index) { if (!isIndex(index)) return -1; return (int) base.leaves.get(index).stream().filter(l -> l.size() < told.page / 2.0).count(); }
  public int costs(int index, int what) { if (!isIndex(index) || what < 0 || what > 1) return -1; return what == 0 ? base.pass(index, base.going()) : base.probing(index, base.going()); }
  public int ways() { int b = 0; for (int k = 0; k < base.leaves.size(); k++) if (base.way(k, base.going()) == 0) b |= 1 << k; return b; }

  public int turn(int index) {
    if (!isIndex(index)) return -1;
    List<Integer> rows = new ArrayList<>();
    for (Entry e : base.all(index)) rows.add(e.row());
    Collections.sort(rows);
    for (int n = 1; n <= rows.size(); n++) if (base.way(index, new TreeSet<>(rows.subList(0, n))) == 1) return n;
    return -1;
  }

  public int lefts(int index, int k) {
    if (!isIndex(index) || k < 0 || k >= base.leaves.get(index).size()) return -1;
    Set<Integer> g = base.going();
    return (int) base.leaves.get(index).get(k).stream().filter(e -> g.contains(e.row())).count();
  }

  public int when(int index, int row) {
    if (!base.on || !isIndex(index) || base.left(index).stream().noneMatch(e -> e.row() == row)) return -1;
    Base b = base.risen();
    int n = 0;
    while (b.left(index).stream().anyMatch(e -> e.row() == row)) { b.step(); n++; }
    return n;
  }

  public int next(int index, int i) { if (!isIndex(index)) return -1; List<Entry> l = base.going(index); return i < 0 || i >= l.size() ? -1 : l.get(i).row(); }

  public int job(int what) {
    if (!base.on) return -1;
    return switch (what) {
      case 0 -> base.at;
      case 1 -> base.at == 4 ? -1 : base.way;
      case 2 -> bits(base.chosen);
      case 3 -> base.since;
      case 4 -> base.records.size();
      case 5 -> base.down ? 1 : 0;
      case 6 -> base.aside.size();
      default -> -1;
    };
  }

  public int record(int k, int what) { return !base.on || k < 0 || k >= base.records.size() || what < 0 || what > 2 ? -1 : base.records.get(k)[what]; }
  public int steps() { if (!base.on) return -1; Base b = base.risen(); int n = 0; while (b.on) { b.step(); n++; } return n; }

  public int after(int steps, int what) {
    if (steps < 0 || steps > 150 || what < 0 || what > 3) return -2;
    Base b = base.risen();
    for (int i = 0; i < steps; i++) b.step();
    return what == 0 ? b.on ? b.at : -1 : what == 1 ? b.spent : what == 2 ? b.allLeaves() : b.on ? b.records.size() : 0;
  }

  public int during(int steps, int a, int b, int c, int what) {
    if (steps < 0 || steps > 150 || what < 0 || what > 2 || !ok(a, b, c)) return -2;
    Base x = base.risen();
    for (int i = 0; i < steps; i++) x.step();
    int row = x.insert(a, b, c);
    while (x.on) x.step();
    return what == 0 ? row : what == 1 ? x.spent : x.allLeaves();
  }

  public int crashes(int n, int batch) {
    if (n < 1 || n > 50 || batch < 1 || batch > 8 || !base.on) return -1;
    Base b = base.risen();
    b.batch = batch;
    int steps = 0;
    while (b.on && steps < 200) {
      b.step();
      steps++;
      if (b.on && steps % n == 0) { b.crash(); b.resume(); }
    }
    return b.on ? -1 : steps;
  }

  List<Integer> sorted(int index, int memory) {
    if (!isIndex(index) || memory < 1 || memory > 8) return null;
    List<Entry> coming = base.left(index), held = new ArrayList<>();
    coming.sort(Comparator.comparing(Entry::row));
    List<Integer> runs = new ArrayList<>();
    Comparator<Entry> order = base.order(index);
    Entry last = null;
    while (!coming.isEmpty() || !held.isEmpty()) {
      while (held.size() < memory && !coming.isEmpty()) held.add(coming.remove(0));
      held.sort(order);
      Entry out = null;
      for (Entry e : held) if (out == null && last != null && order.compare(e, last) >= 0) out = e;
      if (out == null) { runs.add(0); out = held.get(0); }
      runs.set(runs.size() - 1, runs.get(runs.size() - 1) + 1);
      held.remove(out);
      last = out;
    }
    return runs;
  }

  public int runs(int index, int memory) { List<Integer> l = sorted(index, memory); return l == null ? -1 : l.size(); }
  public int run(int index, int memory, int k) { List<Integer> l = sorted(index, memory); return l == null || k < 0 || k >= l.size() ? -1 : l.get(k); }

  public int merged(int index, int memory) {
    List<Integer> l = sorted(index, memory);
    if (l == null) return -1;
    PriorityQueue<Integer> q = new PriorityQueue<>(l);
    int cost = 0;
    while (q.size() > 1) { int two = q.remove() + q.remove(); cost += two; q.add(two); }
    return cost;
  }

  public int check(int what) {
    if (what < 0 || what > 1) return -1;
    List<Integer> p = new ArrayList<>(), r = new ArrayList<>();
    for (int[] x : base.pointers) if (x[0] == 0 && x[1] >= 0) p.add(x[1]);
    for (int x : base.going()) r.add(base.rows.get(x)[0]);
    if (what == 1) {
      for (int k = 0; k < base.leaves.size(); k++) if (told.columns.get(k) == 0 && told.kinds.get(k) != 3) return p.size() * (base.height(k) + 1);
      return p.size() * r.size();
    }
    Collections.sort(p);
    Collections.sort(r);
    int n = 0;
    while (!p.isEmpty() && !r.isEmpty()) { n++; if (r.get(0) < p.get(0)) r.remove(0); else p.remove(0); }
    return n;
  }

  public int hinders() { return bits(base.hinders(base.wouldChoose(-1, 0, 0))); }
  public boolean fits(int row, int what) { return base.visible().contains(row) && (what == 0 ? base.isSo(told.choose, row) : what == 1 && base.isSo(told.part, row)); }
  public int needs(int pointer) { if (pointer < 0 || pointer >= base.pointers.size()) return -1; Set<Integer> s = base.visible(); s.removeIf(r -> base.rows.get(r)[0] != base.pointers.get(pointer)[1]); return bits(s); }
  public boolean free(int row) { return base.canRemove(row); }

  public int would(int a, int b, int c) {
    if (!ok(a, b, c)) return -1;
    int[] v = {a, b, c};
    int bits = 0;
    for (int k = 0; k < base.leaves.size(); k++) if (base.rows.size() == 30 || base.onceHas(k, v[told.columns.get(k)], -1)) bits |= 1 << k;
    return bits;
  }

  public int count(int what) {
    return switch (what) {
      case 0 -> told.page;
      case 1 -> told.batch;
      case 2 -> told.names.size();
      case 3 -> base.rows.size();
      case 4 -> bits(base.visible());
      case 5 -> base.pointers.size();
      case 6 -> base.spent;
      case 7 -> lines.size();
      case 8 -> undo.size();
      case 9 -> tape.length();
      default -> -1;
    };
  }
}
