/** What the tests share: answers counted, tables told as texts. */
final class Due {
  private static int wrong = 0;
  private static int looked = 0;
  private static String where = "";

  private Due() { }

  /** What is looked at from here on: told ahead of each answer that is not the one that is due. */
  static void in(String test) { where = test.isEmpty() ? "" : test + ": "; }

  static void due(String what, long got, long want) {
    looked++;
    if (got != want) {
      wrong++;
      System.out.println(where + what + " answered " + got + ", due is " + want);
    }
  }

  static void due(String what, boolean got, boolean want) { due(what, got ? 1 : 0, want ? 1 : 0); }

  static void due(String what, String got, String want) {
    looked++;
    if (!got.equals(want)) {
      wrong++;
      System.out.println(where + what + " answered\n  " + got + ", due is\n  " + want);
    }
  }

  static void end() {
    System.out.println(wrong == 0 ? looked + " answers are as due" : wrong + " of " + looked + " answers are not as due");
    if (wrong != 0) System.exit(1);
  }

  /** The text, 24 signs a call; the last call's rest is 0, which is no sign. */
  static int feed(LeafSweep x, String text) {
    int length = x.count(9);
    for (int p = 0; p < text.length(); p += 24) {
      long[] bytes = new long[3];
      for (int i = 0; i < 24; i++) bytes[i / 8] = bytes[i / 8] << 8 | (p + i < text.length() ? text.charAt(p + i) : 0);
      length = x.feed(bytes[0], bytes[1], bytes[2]);
    }
    return length;
  }

  static int table(LeafSweep x, String text) { feed(x, text); return x.table(); }

  static int work(LeafSweep x, String text) { feed(x, text); return x.work(); }

  /** An object with that TABLE. */
  static LeafSweep told(String text) {
    LeafSweep x = new LeafSweep();
    due("table() of " + text, table(x, text), 0);
    return x;
  }

  /** The ROWS of an INDEX, leaf by leaf: "0 2|1 4|3". */
  static String leaves(LeafSweep x, int index) {
    StringBuilder s = new StringBuilder();
    for (int k = 0; x.leaf(index, k, 0) != -1; k++) {
      if (k > 0) s.append('|');
      for (int i = 0; x.leaf(index, k, i) != -1; i++) s.append(i > 0 ? " " : "").append(x.leaf(index, k, i));
    }
    return s.toString();
  }

  /** All that can be seen of an object and that undo brings back. */
  static String sight(LeafSweep x) {
    StringBuilder s = new StringBuilder();
    for (int w = 0; w <= 6; w++) s.append(x.count(w)).append(' ');
    for (int r = 0; r < 30; r++) for (int w = 0; w < 6; w++) s.append(x.row(r, w)).append(' ');
    for (int p = 0; p < 12; p++) for (int w = 0; w < 2; w++) s.append(x.pointer(p, w)).append(' ');
    for (int i = 0; i < 4; i++) s.append(leaves(x, i)).append('/').append(x.stale(i)).append(' ').append(x.missing(i)).append(' ');
    for (int w = 0; w < 7; w++) s.append(x.job(w)).append(' ');
    for (int k = 0; k < 120; k++) for (int w = 0; w < 3; w++) s.append(x.record(k, w)).append(' ');
    for (int i = 0; i < 40; i++) s.append(x.side(i)).append(' ');
    for (int w = 0; w < 4; w++) s.append(x.after(5, w)).append(' ').append(x.after(150, w)).append(' ');
    for (int n = 1; n < 4; n++) s.append(x.crashes(n, 2)).append(' ');
    return s.toString();
  }
}
