/** Promises 5 to 8, sentence by sentence: rows, indexes, leaves and pointers as they stand. */
public final class Bounds05To08Test extends Bounds {
  public static void main(String[] args) throws Exception { run(Bounds05To08Test.class); }

  /** x is 0 2|1, p is 0 2 (the rows with even numbers); row 1 is chosen by a is 5. */
  private static final String THREE = "page 2;batch 1;index x plain on a;index p partial on b;row 1 7 9;row 5 8 9;row 3 9 9;part every 2;choose a is 5;";

  // ---------------------------------------------------------------- promise 5

  @Says("`int row(int row, int what)`: Of a ROW, what 0, 1, 2: a, b, c,")
  static void promise5_values() {
    LeafSweep x = told("row 0 1 2;row 999 998 997;");
    for (int w = 0; w < 3; w++) is("of the first one, " + w, x.row(0, w), w);
    for (int w = 0; w < 3; w++) is("of the second one, " + w, x.row(1, w), 999 - w);
    x.change(0, 2, 777);
    is("as it is now", x.row(0, 2), 777);
    x.remove(0);
    is("of one taken out", x.row(0, 2), 777);
  }

  @Says({"3: 1 THERE,", "A ROW is THERE till it is taken out;"})
  static void promise5_thereTillTakenOut() {
    LeafSweep x = told(THREE);
    is("told", x.row(0, 3), 1);
    x.remove(0);
    is("removed", x.row(0, 3), 0);
    x.insert(6, 6, 6);
    is("come", x.row(3, 3), 1);
    x.begin(-1, 0, 0);
    is("chosen", x.row(1, 3), 1);
    x.step();
    is("its last ENTRY is gone", x.row(1, 5), 0);
    is("behind all", x.job(0), 4);
    is("behind all it is THERE", x.row(1, 3), 1);
    x.step();
    is("the JOB is over", x.row(1, 3), 0);
    is("another one stays", x.row(2, 3), 1);
  }

  @Says({"4: 1 CHOSEN (0: not),", "VISIBLE if it is THERE and not CHOSEN."})
  static void promise5_chosen() {
    LeafSweep x = told(THREE);
    is("no JOB", x.row(1, 4), 0);
    is("VISIBLE", x.count(4), 7);
    x.begin(-1, 0, 0);
    is("CHOSEN", x.row(1, 4), 1);
    is("another one is not", x.row(0, 4), 0);
    is("VISIBLE", x.count(4), 5);
    x.stop();
    is("nobody is", x.row(1, 4), 0);
    is("VISIBLE", x.count(4), 7);
    x.remove(2);
    is("VISIBLE", x.count(4), 3);
    x.begin(-1, 0, 0);
    steps(x, 2);
    is("over: nobody is", x.row(1, 4), 0);
    is("VISIBLE", x.count(4), 1);
  }

  @Says({"5: INDEXES in which an ENTRY of it is, as bits;", "It BELONGS to each INDEX, but to a partial one only if the WHERE of part is so of it."})
  static void promise5_entriesAsBits() {
    LeafSweep x = told(THREE);
    is("both", x.row(0, 5), 3);
    is("not the partial one", x.row(1, 5), 1);
    is("both", x.row(2, 5), 3);
    x.begin(-1, 0, 0);
    is("come while the JOB is AT x", x.insert(4, 4, 4), 3);
    is("3 is odd", x.row(3, 5), 0);
    is("come while the JOB is AT x", x.insert(4, 4, 4), 4);
    is("it waits for x", x.row(4, 5), 2);
    x.remove(0);
    is("its ENTRY is in x still", x.row(0, 5), 1);
    x.step();
    is("gone", x.row(1, 5), 0);
    is("carried out", x.row(0, 5), 0);
    is("carried out", x.row(4, 5), 3);
    x = told("index k plain on a;index l plain on b;index m down on c;index n once on c;row 1 1 1;");
    is("all four", x.row(0, 5), 15);
  }

  @Says("NONE: others, no such ROW has come.")
  static void promise5_others() {
    LeafSweep x = told(THREE);
    for (int w : new int[] {-1, 6, 7, 32, LOW, HIGH}) is("what " + w, x.row(0, w), -1);
    for (int r : new int[] {-1, 3, 29, 30, 31, 32, 33, LOW, HIGH}) for (int w = 0; w < 6; w++) is("row " + r + ", " + w, x.row(r, w), -1);
    is("the last one", x.row(2, 0), 3);
    for (int i = 3; i < 30; i++) x.insert(i, i, i);
    is("the 30th", x.row(29, 0), 29);
    is("none behind it", x.row(30, 0), -1);
    is("without a TABLE", new LeafSweep().row(0, 0), -1);
  }

  @Says("ROWS are numbered as they come, 30 at most ever; a number is not used again.")
  static void promise5_30RowsEver() {
    LeafSweep x = told(up(20));
    x.remove(19);
    is("behind a removed one", x.insert(5, 5, 5), 20);
    x.remove(20);
    for (int r = 21; r < 30; r++) is("come", x.insert(5, 5, 5), r);
    is("30 have come", x.insert(5, 5, 5), -1);
    is("how many", x.count(3), 30);
    is("taken out ones count", x.row(20, 3), 0);
    x.begin(-1, 0, 0);
    x.step();
    is("all are taken out", x.count(4), 0);
    is("but none comes", x.insert(5, 5, 5), -1);
  }

  // ---------------------------------------------------------------- promise 6

  @Says("`int index(int index, int what)`: Of an INDEX, what 0: KIND (0 plain, 1 down, 2 once, 3 partial), 1: COLUMN,")
  static void promise6_kindAndColumn() {
    String[] kinds = {"plain", "down", "once", "partial"};
    String[] columns = {"a", "b", "c"};
    for (int k = 0; k < 4; k++) {
      for (int c = 0; c < 3; c++) {
        LeafSweep x = told("index x " + kinds[k] + " on " + columns[c] + ";");
        is(kinds[k], x.index(0, 0), k);
        is(columns[c], x.index(0, 1), c);
      }
    }
  }

  @Says({"2: ENTRIES, 3: LEAVES, 4: HEIGHT;", "They stand in LEAVES, one behind another, none empty (no ENTRY: no LEAF)."})
  static void promise6_entriesAndLeaves() {
    LeafSweep x = told("page 3;index x plain on a;index p partial on a;part a is 9;");
    int[] leaves = {0, 1, 1, 1, 2, 2, 3};
    for (int n = 0; n <= 6; n++) {
      is("ENTRIES", x.index(0, 2), n);
      is("LEAVES of " + n, x.index(0, 3), leaves[n]);
      is("HEIGHT of " + n, x.index(0, 4), leaves[n] < 2 ? 0 : 1);
      for (int w = 2; w < 5; w++) is("nothing in p", x.index(1, w), 0);
      x.insert(n, 0, 0);
    }
    for (int r = 0; r < 7; r++) x.remove(r);
    for (int w = 2; w < 5; w++) is("nothing left in x", x.index(0, w), 0);
  }

  @Says("HEIGHT: 0 up to one LEAF; else how often the number of LEAVES must be divided by page, cut upwards each time, till it is 1.")
  static void promise6_height() {
    int[] byTwo = {0, 0, 1, 2, 2, 3, 3, 3, 3, 4, 4, 4, 4, 4, 4, 4, 4, 5, 5, 5, 5, 5, 5, 5, 5, 5, 5, 5, 5, 5};
    LeafSweep x = told("page 2;index x plain on a;");
    is("no LEAF", x.index(0, 4), 0);
    for (int n = 1; n <= 30; n++) {
      x.insert(500 - n, 0, 0);
      int due = n < 2 ? n : n - 1;
      is("LEAVES by two", x.index(0, 3), due);
      is("HEIGHT by two of " + due, x.index(0, 4), byTwo[due]);
    }
    int[] most = {0, 0, 0, 15, 14, 10, 9, 7, 7};
    int[] height = {0, 0, 0, 3, 2, 2, 2, 1, 1};
    for (int page = 3; page <= 8; page++) {
      x = told("page " + page + ";index x plain on a;");
      for (int n = 1; n <= 30; n++) {
        x.insert(500 - n, 0, 0);
        int l = x.index(0, 3);
        is("HEIGHT by " + page + " of " + l, x.index(0, 4), l < 2 ? 0 : l <= page ? 1 : l <= page * page ? 2 : 3);
      }
      is("LEAVES by " + page, x.index(0, 3), most[page]);
      is("HEIGHT at last by " + page, x.index(0, 4), height[page]);
    }
  }

  @Says("NONE: others.")
  static void promise6_others() {
    LeafSweep x = told("index x plain on a;index y plain on a;row 1 1 1;");
    for (int w : new int[] {-1, 5, 32, LOW, HIGH}) is("what " + w, x.index(0, w), -1);
    for (int i : new int[] {-1, 2, 3, 4, 32, LOW, HIGH}) for (int w = 0; w < 5; w++) is("index " + i, x.index(i, w), -1);
    is("the last one", x.index(1, 2), 1);
    LeafSweep four = told("index x plain on a;index y plain on a;index z plain on a;index w down on a;");
    is("the fourth one", four.index(3, 0), 1);
    is("no fifth one", four.index(4, 0), -1);
  }

  // ---------------------------------------------------------------- promise 7

  @Says("`int leaf(int index, int k, int i)`: The ROW of the i-th ENTRY of the k-th LEAF (from 0); NONE: others, none such.")
  static void promise7_rowOfAnEntry() {
    LeafSweep x = told("page 3;index x plain on a;row 3 0 0;row 1 0 0;row 2 0 0;row 4 0 0;row 5 0 0;");
    int[][] due = {{1, 2, -1}, {0, 3, 4}};
    for (int k = 0; k < 2; k++) for (int i = 0; i < 3; i++) is("leaf(0, " + k + ", " + i + ")", x.leaf(0, k, i), due[k][i]);
    for (int k : new int[] {-1, 2, 3, 30, LOW, HIGH}) is("LEAF " + k, x.leaf(0, k, 0), -1);
    for (int i : new int[] {-1, 3, 4, 30, LOW, HIGH}) is("ENTRY " + i, x.leaf(0, 1, i), -1);
    is("the next LEAF's is not its", x.leaf(0, 0, 2), -1);
    for (int n : new int[] {-1, 1, 4, LOW, HIGH}) is("INDEX " + n, x.leaf(n, 0, 0), -1);
    is("no LEAF", told("index x plain on a;").leaf(0, 0, 0), -1);
  }

  @Says("An INDEX holds ENTRIES, each the value of a ROW in its COLUMN and the ROW's number, in ORDER: by values, upwards (down: downwards), of equal ones by numbers, upwards.")
  static void promise7_order() {
    String rows = "row 5 0 999;row 0 0 0;row 999 0 5;row 5 0 5;";
    is("upwards", leaves(told("page 8;index x plain on a;" + rows), 0), "1 0 3 2");
    is("downwards, equal ones upwards", leaves(told("page 8;index x down on a;" + rows), 0), "2 0 3 1");
    is("by another COLUMN", leaves(told("page 8;index x partial on c;" + rows), 0), "1 2 3 0");
    is("down by another COLUMN", leaves(told("page 8;index x down on c;" + rows), 0), "0 2 3 1");
    is("all are equal", leaves(told("page 8;index x plain on b;" + rows), 0), "0 1 2 3");
    is("all are equal, down", leaves(told("page 8;index x down on b;" + rows), 0), "0 1 2 3");
    is("once", leaves(told("page 8;index x once on a;row 9 0 0;row 8 0 0;"), 0), "1 0");
  }

  @Says("To PUT an ENTRY: into the last LEAF of which the first ENTRY is ahead of it (if there is none, into the first LEAF; no LEAF: one of its own);")
  static void promise7_putIntoWhichLeaf() {
    String rows = "page 3;index x plain on a;row 10 0 0;row 20 0 0;row 30 0 0;row 40 0 0;";
    is("two LEAVES", leaves(told(rows), 0), "0 1|2 3");
    is("no LEAF: one of its own", leaves(told("index x plain on a;row 7 0 0;"), 0), "0");
    is("ahead of all: into the first one", leaves(told(rows + "row 5 0 0;"), 0), "4 0 1|2 3");
    is("equal, but a higher number: it is ahead", leaves(told(rows + "row 10 0 0;"), 0), "0 4 1|2 3");
    is("between the two: into the one ahead", leaves(told(rows + "row 29 0 0;"), 0), "0 1 4|2 3");
    is("at the second one's first value: into that", leaves(told(rows + "row 30 0 0;"), 0), "0 1|2 4 3");
    is("behind all: into the last one", leaves(told(rows + "row 99 0 0;"), 0), "0 1|2 3 4");
    LeafSweep x = told(rows);
    x.change(0, 0, 30);
    is("at the second one's first value, but a lower number: into the one ahead", leaves(x, 0), "1 0|2 3");
    x = told("page 3;index x down on a;row 40 0 0;row 30 0 0;row 20 0 0;row 10 0 0;row 20 0 0;");
    is("down: at the second one's first value", leaves(x, 0), "0 1|2 4 3");
    x.change(0, 0, 20);
    is("down: a lower number", leaves(x, 0), "1 0|2 4 3");
  }

  @Says("if it has more than page ENTRIES then, the last (page + 1) / 2, cut, of it make a LEAF of their own right behind it.")
  static void promise7_cutALeaf() {
    String[] full = {"", "", "0 1", "0 1 2", "0 1 2 3", "0 1 2 3 4", "0 1 2 3 4 5", "0 1 2 3 4 5 6", "0 1 2 3 4 5 6 7"};
    String[] more = {"", "", "0 1|2", "0 1|2 3", "0 1 2|3 4", "0 1 2|3 4 5", "0 1 2 3|4 5 6", "0 1 2 3|4 5 6 7", "0 1 2 3 4|5 6 7 8"};
    for (int page = 2; page <= 8; page++) {
      is("page " + page + " of " + page, leaves(told("page " + page + ";index x plain on a;" + up(page)), 0), full[page]);
      is("page " + page + " of one more", leaves(told("page " + page + ";index x plain on a;" + up(page + 1)), 0), more[page]);
    }
    is("right behind it", leaves(told("page 2;index x plain on a;row 1 0 0;row 5 0 0;row 9 0 0;row 2 0 0;"), 0), "0 3|1|2");
    is("the last ones, where ever the new one is", leaves(told("page 2;index x plain on a;row 5 0 0;row 9 0 0;row 1 0 0;"), 0), "2 0|1");
    is("the last ones, where ever the new one is", leaves(told("page 3;index x down on a;row 5 0 0;row 9 0 0;row 1 0 0;row 7 0 0;"), 0), "1 3|0 2");
  }

  @Says("To TAKE one: it goes; a LEAF without ENTRIES goes.")
  static void promise7_take() {
    LeafSweep x = told("page 2;index x plain on a;" + up(6));
    is("three", leaves(x, 0), "0 1|2 3|4 5");
    x.remove(2);
    is("one of two", leaves(x, 0), "0 1|3|4 5");
    x.remove(3);
    is("the LEAF goes", leaves(x, 0), "0 1|4 5");
    x.remove(0);
    x.remove(1);
    is("the first LEAF goes", leaves(x, 0), "4 5");
    x.remove(5);
    is("one is left", leaves(x, 0), "4");
    x.remove(4);
    is("none is left", leaves(x, 0), "");
    is("no LEAF", x.index(0, 3), 0);
    x.insert(1, 1, 1);
    is("one of its own", leaves(x, 0), "6");
  }

  // ---------------------------------------------------------------- promise 8

  private static final String POINTERS = "row 0 0 0;row 999 1 0;point firm at 0;point loose at 999;point bound at 999;choose b is 1;";

  @Says({"`int pointer(int pointer, int what)`: Of a POINTER, what 0: SORT (0 firm, 1 loose, 2 bound),", "POINTER: firm, loose, bound; it points at a value of a, or nowhere, or is GONE."})
  static void promise8_sort() {
    LeafSweep x = told(POINTERS);
    for (int p = 0; p < 3; p++) is("SORT of " + p, x.pointer(p, 0), p);
    x.begin(-1, 0, 0);
    for (int p = 0; p < 3; p++) is("SORT of " + p + " when it points no more", x.pointer(p, 0), p);
    x.drop(0);
    is("SORT of a dropped one", x.pointer(0, 0), 0);
    is("GONE", x.pointer(0, 1), -2);
  }

  @Says("1: where it points (NONE: nowhere, -2: it is GONE);")
  static void promise8_where() {
    LeafSweep x = told(POINTERS);
    is("0", x.pointer(0, 1), 0);
    is("999", x.pointer(1, 1), 999);
    is("999", x.pointer(2, 1), 999);
    x.begin(-1, 0, 0);
    is("firm", x.pointer(0, 1), 0);
    is("nowhere", x.pointer(1, 1), -1);
    is("GONE", x.pointer(2, 1), -2);
    x.drop(1);
    is("dropped", x.pointer(1, 1), -2);
  }

  @Says("-3: others.")
  static void promise8_others() {
    LeafSweep x = told(POINTERS);
    for (int w : new int[] {-1, 2, 3, LOW, HIGH}) is("what " + w, x.pointer(0, w), -3);
    for (int p : new int[] {-1, 3, 11, 12, 13, LOW, HIGH}) for (int w = 0; w < 2; w++) is("POINTER " + p, x.pointer(p, w), -3);
    for (int p = 3; p < 12; p++) x.point(0, 0);
    is("the 12th", x.pointer(11, 1), 0);
    is("no 13th", x.pointer(12, 1), -3);
    is("without a TABLE", new LeafSweep().pointer(0, 0), -3);
  }
}
