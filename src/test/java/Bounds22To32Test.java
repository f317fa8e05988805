/** Promises 22 to 32, sentence by sentence: what readers find, and how the indexes stand while a job goes on. */
public final class Bounds22To32Test extends Bounds {
  public static void main(String[] args) throws Exception { run(Bounds22To32Test.class); }

  private static final int[] NO_INDEX = {-1, 3, 4, 5, 32, LOW, HIGH};

  /** x is 0 2 5 1 4 3 by a, y is 4 2 0 1 5 3 by b downwards, p has 0 1 2 4 (b over c); 1 and 4 go. */
  private static final String THREE = "page 2;batch 2;index x plain on a;index y down on b;index p partial on a;"
      + "row 10 5 1;row 20 5 2;row 10 7 3;row 30 1 4;row 20 9 5;row 10 5 6;choose a is 20;part b over c;";

  private static String fetched(LeafSweep x) {
    StringBuilder s = new StringBuilder();
    for (int r = x.fetch(); r != -1; r = x.fetch()) s.append(s.length() > 0 ? " " : "").append(r);
    return s.toString();
  }

  // ---------------------------------------------------------------- promise 22

  @Says({"`int found(int index, int key)`: FOUND, as bits; NONE: others.", "A key is any int."})
  static void promise22_anyKey() {
    LeafSweep x = told(THREE + "row 0 0 0;row 999 0 0;");
    for (int i : NO_INDEX) for (int k : new int[] {0, 10, LOW, HIGH}) is("INDEX " + i, x.found(i, k), -1);
    for (int i = 0; i < 3; i++) for (int k : new int[] {-1, -2, 1000, LOW, HIGH, 11}) is("key " + k, x.found(i, k), 0);
    is("0", x.found(0, 0), 64);
    is("999", x.found(0, 999), 128);
    is("999, down", x.found(1, 999), 0);
    is("10", x.found(0, 10), 37);
    is("without a TABLE", new LeafSweep().found(0, 0), -1);
  }

  @Says("FOUND through an INDEX at a key: VISIBLE ROWS that BELONG to it and have that value in its COLUMN (bits), at any time.")
  static void promise22_atAnyTime() {
    LeafSweep x = told(THREE);
    is("those that BELONG", x.found(2, 10), 5);
    is("down", x.found(1, 5), 35);
    x.begin(-1, 0, 0);
    is("CHOSEN ones are not", x.found(0, 20), 0);
    is("in another INDEX, too", x.found(1, 5), 33);
    x.insert(20, 5, 1);
    is("one on the SIDE list", x.found(0, 20), 64);
    x.change(6, 0, 21);
    is("by the value that it has now", x.found(0, 21), 64);
    is("not by the old one", x.found(0, 20), 0);
    is("in p", x.found(2, 21), 64);
    x.change(6, 2, 9);
    is("it BELONGS to p no more", x.found(2, 21), 0);
    x.step();
    x.crash();
    is("DOWN", x.found(0, 21), 64);
    x.remove(6);
    is("THERE no more", x.found(0, 21), 0);
    x.resume();
    x.undo();
    x.stop();
    is("CHOSEN no more", x.found(0, 20), 0);
    x = begun(THREE, 2);
    x.stop();
    is("CHOSEN no more", x.found(0, 20), 18);
  }

  // ---------------------------------------------------------------- promise 23

  @Says("`boolean open(int index, int key)`: The CURSOR is opened: true; false: others (it stays).")
  static void promise23_others() {
    LeafSweep x = told(THREE);
    for (int i : NO_INDEX) is("INDEX " + i, x.open(i, 0), false);
    is("no CURSOR", x.fetch(), -1);
    is("open", x.open(0, 0), true);
    is("fetch", x.fetch(), 0);
    for (int i : NO_INDEX) is("INDEX " + i, x.open(i, HIGH), false);
    is("it stays", x.fetch(), 2);
    is("opened again", x.open(0, 0), true);
    is("from the first one", x.fetch(), 0);
    is("on another INDEX", x.open(1, 5), true);
    is("that one's", x.fetch(), 0);
    is("it can't be undone", x.count(8), 0);
    is("without a TABLE", new LeafSweep().open(0, 0), false);
  }

  // ---------------------------------------------------------------- promise 24

  @Says("`int fetch()`: FETCH: the ROW; NONE: no CURSOR, none is left (it stays).")
  static void promise24_noneIsLeft() {
    LeafSweep x = told(THREE);
    is("no CURSOR", x.fetch(), -1);
    x.open(0, 30);
    is("the last one", x.fetch(), 3);
    is("none is left", x.fetch(), -1);
    is("none is left", x.fetch(), -1);
    x.insert(30, 0, 0);
    is("it stays: one more", x.fetch(), 6);
    is("none is left", x.fetch(), -1);
    x = told("index x plain on a;");
    x.open(0, 0);
    is("no ROW", x.fetch(), -1);
    x.insert(0, 0, 0);
    is("row 0 at key 0", x.fetch(), 0);
    is("without a TABLE", new LeafSweep().fetch(), -1);
  }

  @Says({"The CURSOR is opened on an INDEX at a key;", "that is not ahead of the key (by values alone),"})
  static void promise24_notAheadOfTheKey() {
    String[][] due = {{"0", "10", "0 2 5 1 4 3"}, {"0", "9", "0 2 5 1 4 3"}, {"0", "11", "1 4 3"}, {"0", "20", "1 4 3"}, {"0", "30", "3"}, {"0", "31", ""}, {"0", "" + LOW, "0 2 5 1 4 3"}, {"0", "" + HIGH, ""},
        {"0", "-1", "0 2 5 1 4 3"}, {"0", "1000", ""}, {"1", "9", "4 2 0 1 5 3"}, {"1", "8", "2 0 1 5 3"}, {"1", "5", "0 1 5 3"}, {"1", "4", "3"}, {"1", "1", "3"}, {"1", "0", ""}, {"1", "" + HIGH, "4 2 0 1 5 3"},
        {"1", "" + LOW, ""}, {"1", "1000", "4 2 0 1 5 3"}, {"1", "-1", ""}, {"2", "0", "0 2 1 4"}, {"2", "20", "1 4"}};
    for (String[] d : due) {
      LeafSweep x = told(THREE);
      is("open", x.open(Integer.parseInt(d[0]), Integer.parseInt(d[1])), true);
      is("INDEX " + d[0] + " at " + d[1], fetched(x), d[2]);
    }
  }

  @Says({"FETCH: the VISIBLE ROW that BELONGS to it of which the ENTRY (as it is now) is the first one in ORDER", "and behind that of the last one fetched since it was opened (as it was then)."})
  static void promise24_behindTheLastOneFetched() {
    LeafSweep x = told(THREE);
    x.open(0, 0);
    is("fetch", x.fetch(), 0);
    x.begin(-1, 0, 0);
    is("VISIBLE", x.fetch(), 2);
    x.change(0, 0, 15);
    x.change(2, 0, 5);
    is("behind 10, 2, as it was then", x.fetch(), 5);
    is("as it is now", x.fetch(), 0);
    x.change(5, 0, 25);
    is("fetched again, being behind now", x.fetch(), 5);
    x.change(5, 0, 25);
    is("the same ENTRY is not behind itself", x.fetch(), 3);
    is("none", x.fetch(), -1);
    x = told("index x plain on a;row 5 0 0;row 5 0 0;row 5 0 0;row 4 0 0;");
    x.open(0, 5);
    is("equal ones", x.fetch(), 0);
    is("by numbers", x.fetch(), 1);
    x.change(0, 1, 9);
    x.change(3, 0, 5);
    is("by numbers", x.fetch(), 2);
    is("by numbers", x.fetch(), 3);
    is("none", x.fetch(), -1);
    x = told("index x down on a;row 5 0 0;row 4 0 0;row 5 0 0;");
    x.open(0, 5);
    is("down: 0 2 1", fetched(x), "0 2 1");
    x = told("index p partial on a;row 1 0 0;row 2 0 0;row 3 0 0;part b is 0;");
    x.open(0, 0);
    is("fetch", x.fetch(), 0);
    x.change(1, 1, 1);
    is("1 BELONGS to it no more", x.fetch(), 2);
  }

  // ---------------------------------------------------------------- promise 25

  @Says("NoSuchElementException: others, it is not VISIBLE, does not BELONG to it.")
  static void promise25_others() {
    LeafSweep x = told(THREE);
    for (int i : NO_INDEX) is("INDEX " + i, rank(x, i, 0), -7);
    for (int r : new int[] {-1, 6, 29, 30, 31, 32, 33, 64, LOW, HIGH}) for (int i = 0; i < 3; i++) is("row " + r, rank(x, i, r), -7);
    is("it does not BELONG", rank(x, 2, 3), -7);
    is("it does not BELONG", rank(x, 2, 5), -7);
    is("it does", rank(x, 2, 4), 3);
    x.begin(-1, 0, 0);
    is("CHOSEN", rank(x, 0, 4), -7);
    x.remove(0);
    is("removed", rank(x, 0, 0), -7);
    x.stop();
    is("VISIBLE again", rank(x, 0, 4), 3);
    is("without a TABLE", rank(new LeafSweep(), 0, 0), -7);
    for (int i = 6; i < 30; i++) x.insert(i, i, i);
    is("row 29", rank(x, 0, 29), 27);
  }

  @Says({"`int rank(int index, int row) throws NoSuchElementException`: RANK;", "RANK of a VISIBLE ROW that BELONGS to it: how many other such ones have an ENTRY (as it is now) ahead in ORDER."})
  static void promise25_howManyAreAhead() {
    LeafSweep x = told(THREE);
    int[][] due = {{0, 3, 1, 5, 4, 2}, {2, 3, 1, 5, 0, 4}, {0, 2, 1, -7, 3, -7}};
    for (int i = 0; i < 3; i++) for (int r = 0; r < 6; r++) is("rank(" + i + ", " + r + ")", rank(x, i, r), due[i][r]);
    x.begin(-1, 0, 0);
    is("CHOSEN ones do not count", rank(x, 0, 3), 3);
    x.insert(5, 5, 0);
    is("one on the SIDE list does", rank(x, 0, 3), 4);
    is("its own", rank(x, 0, 6), 0);
    x.change(6, 0, 40);
    is("as it is now", rank(x, 0, 3), 3);
    is("as it is now", rank(x, 0, 6), 4);
    x.remove(0);
    is("one that is THERE no more does not", rank(x, 0, 3), 2);
    is("the only one", rank(told("index x down on c;row 0 0 0;"), 0, 0), 0);
  }

  // ---------------------------------------------------------------- promise 26

  @Says({"`int skips(int index, int key)`: SKIPS: how many; NONE: others.", "SKIPS at a key: ENTRIES of an INDEX with that value of CHOSEN ROWS, or that are STALE."})
  static void promise26_skips() {
    LeafSweep x = told(THREE);
    for (int i : NO_INDEX) is("INDEX " + i, x.skips(i, 20), -1);
    is("without a JOB", x.skips(0, 20), 0);
    x.begin(-1, 0, 0);
    for (int k : new int[] {LOW, HIGH, -1, 1000, 19, 21}) for (int i = 0; i < 3; i++) is("key " + k, x.skips(i, k), 0);
    is("two CHOSEN ones", x.skips(0, 20), 2);
    is("in y, too", x.skips(1, 5), 1);
    is("in y, too", x.skips(1, 9), 1);
    is("in p, too", x.skips(2, 20), 2);
    is("VISIBLE ones are not", x.skips(0, 10), 0);
    x.change(0, 0, 20);
    is("a STALE one, by the ENTRY's value", x.skips(0, 10), 1);
    is("not by the ROW's", x.skips(0, 20), 2);
    x.remove(3);
    is("a STALE one", x.skips(0, 30), 1);
    is("not where the JOB is not", x.skips(1, 1), 0);
    x.step();
    is("one gone", x.skips(0, 20), 1);
    x.step();
    is("both gone, the STALE ones carried out", x.skips(0, 20) + x.skips(0, 10) + x.skips(0, 30), 0);
    is("y's are LEFT", x.skips(1, 9), 1);
    x = begun("index x plain on a;row 0 0 0;row 999 0 0;row 0 1 0;choose b is 0;", 2);
    is("key 0", x.skips(0, 0), 1);
    is("key 999", x.skips(0, 999), 1);
    x.remove(2);
    is("CHOSEN and STALE", x.skips(0, 0), 2);
    is("without a TABLE", new LeafSweep().skips(0, 0), -1);
  }

  // ---------------------------------------------------------------- promise 27

  @Says({"`int stale(int index)`: STALE, as bits; NONE: others.", "STALE are ENTRIES of an INDEX of ROWS that are not THERE, that have another value now, or that do not BELONG to it (bits by ROWS)."})
  static void promise27_stale() {
    LeafSweep x = told("index p partial on a;index x plain on a;index y plain on b;row 1 0 0;row 2 0 0;row 3 0 0;row 4 0 0;row 5 0 0;choose a is 1;part b is 0;");
    for (int i : NO_INDEX) is("INDEX " + i, x.stale(i), -1);
    is("none without a JOB", x.stale(0), 0);
    x.begin(-1, 0, 0);
    is("CHOSEN ones are not", x.stale(0), 0);
    x.remove(1);
    is("not THERE", x.stale(0), 2);
    x.change(2, 0, 9);
    is("another value", x.stale(0), 6);
    x.change(3, 1, 1);
    is("it does not BELONG", x.stale(0), 14);
    x.insert(6, 0, 0);
    is("one that waits has no ENTRY", x.stale(0), 14);
    is("none where the JOB is not", x.stale(1) + x.stale(2), 0);
    x.change(2, 0, 3);
    x.change(3, 1, 0);
    is("as it was again", x.stale(0), 2);
    x.change(2, 2, 7);
    is("another COLUMN's value", x.stale(0), 2);
    x.crash();
    is("DOWN", x.stale(0), 2);
    x.resume();
    x.step();
    is("carried out", x.stale(0), 0);
    is("AT x now", x.job(0), 1);
    x.change(4, 0, 6);
    is("of x", x.stale(1), 16);
    is("p has it anew", x.stale(0), 0);
    is("without a TABLE", new LeafSweep().stale(0), -1);
  }

  // ---------------------------------------------------------------- promise 28

  @Says({"`int missing(int index)`: MISSING, as bits; NONE: others.", "MISSING: VISIBLE ROWS that BELONG to it, but of which the ENTRY (as it is now) is not in it (bits)."})
  static void promise28_missing() {
    LeafSweep x = told("index p partial on a;index x plain on a;index y plain on b;row 1 0 0;row 2 0 0;row 3 1 0;row 4 0 0;choose a is 1;part b is 0;");
    for (int i : NO_INDEX) is("INDEX " + i, x.missing(i), -1);
    is("none without a JOB; 2 does not BELONG", x.missing(0), 0);
    x.begin(-1, 0, 0);
    is("CHOSEN ones are not", x.missing(0), 0);
    x.insert(6, 0, 0);
    is("come", x.missing(0), 16);
    x.insert(6, 1, 0);
    is("come, but it does not BELONG", x.missing(0), 16);
    x.change(1, 0, 9);
    is("another value", x.missing(0), 18);
    x.change(2, 1, 0);
    is("it BELONGS to it now", x.missing(0), 22);
    x.remove(4);
    is("THERE no more", x.missing(0), 6);
    x.change(1, 0, 2);
    is("as it was again", x.missing(0), 4);
    is("none where the JOB is not", x.missing(1) + x.missing(2), 0);
    x.step();
    is("carried out", x.missing(0), 0);
    is("AT x", x.job(0), 1);
    is("CHOSEN ones are not, though gone", x.missing(0), 0);
    x.change(3, 0, 8);
    is("of x", x.missing(1), 8);
    is("without a TABLE", new LeafSweep().missing(0), -1);
  }

  @Says("MISSING: VISIBLE ROWS that BELONG to it, but of which the ENTRY (as it is now) is not in it (bits).")
  static void promise28_row0And30Entries() {
    LeafSweep x = told("index x plain on a;" + up(20) + "choose a is 5;");
    for (int r = 20; r < 30; r++) x.insert(r, 0, 0);
    x.begin(-1, 0, 0);
    is("30 ENTRIES", x.index(0, 2), 30);
    x.change(29, 0, 999);
    is("behind all", x.missing(0), 1 << 29);
    x.change(0, 0, 500);
    is("row 0, too", x.missing(0), (1 << 29) + 1);
    is("STALE", x.stale(0), (1 << 29) + 1);
    x.change(29, 0, 29);
    is("row 0", x.missing(0), 1);
    is("row 0", x.stale(0), 1);
  }

  // ---------------------------------------------------------------- promise 29

  @Says({"`int side(int i)`: SIDE; Integer.MIN_VALUE: none such.", "SIDE, the i-th (from 0): 1000 * the ROW + the value (PUT), or that less 40000 (TAKEN)."})
  static void promise29_side() {
    LeafSweep x = told("index x down on a;row 0 0 0;row 5 0 0;row 999 0 0;choose a is 5;");
    for (int i : new int[] {-1, 0, 1, 39, 40, LOW, HIGH}) is("no JOB", x.side(i), LOW);
    x.begin(-1, 0, 0);
    for (int i : new int[] {-1, 0, 1, LOW, HIGH}) is("none", x.side(i), LOW);
    x.remove(0);
    x.change(2, 0, 0);
    x.insert(999, 0, 0);
    int[] due = {-40000, 2999 - 40000, 2000, 3999};
    for (int i = 0; i < 4; i++) is("side(" + i + ")", x.side(i), due[i]);
    for (int i : new int[] {-1, 4, 5, 39, 40, 41, LOW, HIGH}) is("none such " + i, x.side(i), LOW);
    x.crash();
    is("DOWN", x.side(3), 3999);
    x.resume();
    x.step();
    is("carried out", x.side(0), LOW);
    x = begun("index x plain on a;row 5 0 0;row 6 0 0;choose a is 5;", 1);
    for (int i = 0; i < 27; i++) x.insert(0, 0, 0);
    is("row 29", x.insert(999, 0, 0), 29);
    is("PUT", x.side(27), 29999);
    x.remove(29);
    is("TAKEN", x.side(28), 29999 - 40000);
    for (int i = 0; i < 11; i++) x.remove(2 + i);
    is("40", x.job(6), 40);
    is("the 40th", x.side(39), 12000 - 40000);
    is("no 41st", x.side(40), LOW);
    is("without a TABLE", new LeafSweep().side(0), LOW);
  }

  // ---------------------------------------------------------------- promise 30

  @Says({"`boolean splits(int index, int key)`: SPLITS; false: others, too.", "with a key (0 to 999) would make two LEAVES of one."})
  static void promise30_others() {
    LeafSweep x = told("page 2;index x plain on a;index y down on a;index p partial on a;row 0 0 0;row 5 0 0;row 999 0 0;row 999 0 0;part a is 7;");
    for (int i : NO_INDEX) for (int k : new int[] {0, 5, 999}) is("INDEX " + i, x.splits(i, k), false);
    is("x", leaves(x, 0), "0 1|2 3");
    is("y", leaves(x, 1), "2 3|1|0");
    for (int i = 0; i < 2; i++) for (int k : new int[] {-1, 1000, LOW, HIGH}) is("key " + k, x.splits(i, k), false);
    for (int k : new int[] {0, 5, 999}) is("key " + k, x.splits(0, k), true);
    for (int k : new int[] {0, 5, 999}) is("down, key " + k, x.splits(1, k), k == 999);
    is("no LEAF", x.splits(2, 7), false);
    is("nothing is PUT", x.index(0, 2), 4);
    is("without a TABLE", new LeafSweep().splits(0, 0), false);
  }

  @Says("SPLITS: whether the PUT of an ENTRY of the next ROW to come (were there no bound)")
  static void promise30_ofTheNextRowToCome() {
    LeafSweep x = told("page 2;index x plain on a;index y down on a;index p partial on a;row 10 0 0;row 20 0 0;row 30 0 0;part a is 20;");
    is("x", leaves(x, 0), "0 1|2");
    is("y", leaves(x, 1), "2 1|0");
    int[] keys = {0, 10, 20, 29, 30, 31, 999};
    boolean[] up = {true, true, true, true, false, false, false}, down = {false, false, true, true, true, true, true};
    for (int i = 0; i < 7; i++) is("x at " + keys[i], x.splits(0, keys[i]), up[i]);
    for (int i = 0; i < 7; i++) is("y at " + keys[i], x.splits(1, keys[i]), down[i]);
    is("one ENTRY has room for one", x.splits(2, 20), false);
    x.insert(20, 0, 0);
    is("it need not BELONG", x.splits(2, 5), true);
    x = told("page 2;index x plain on a;" + up(20));
    for (int r = 20; r < 28; r++) x.insert(r, 0, 0);
    x.insert(500, 0, 0);
    x.insert(600, 0, 0);
    x.remove(28);
    is("30 have come", x.insert(1, 1, 1), -1);
    is("the last LEAF", x.leaf(0, 14, 0), 29);
    is("no bound: behind row 29, where there is room", x.splits(0, 600), false);
    is("no bound: ahead of it, where there is none", x.splits(0, 599), true);
    x = begun("page 2;index x plain on a;row 10 0 0;row 20 0 0;choose a is 10;", 1);
    is("as the LEAVES stand while the JOB is AT it", x.splits(0, 5), true);
    x.step();
    is("one is gone", x.splits(0, 5), false);
  }

  @Says("with a key (0 to 999) would make two LEAVES of one.")
  static void promise30_noLeafWhereThereHasBeenAFullOne() {
    LeafSweep x = told("page 2;index x plain on a;row 1 0 0;row 2 0 0;");
    is("a full one", x.splits(0, 5), true);
    is("another TABLE", Due.table(x, "page 2;index x plain on a;"), 0);
    is("no LEAF", x.splits(0, 5), false);
    is("no cost to look at", x.costs(0, 0), 0);
    is("no ENTRY", x.leaf(0, 0, 0), -1);
    is("none LEFT", x.lefts(0, 0), -1);
    is("no LEAF is sparse", x.sparse(0), 0);
  }

  // ---------------------------------------------------------------- promise 31

  @Says({"`int fill(int index)`: FILL; NONE: others.", "FILL: 100 * ENTRIES / (LEAVES * page), cut (0: no LEAF)."})
  static void promise31_fill() {
    LeafSweep x = told("page 3;index x plain on a;index p partial on a;index y down on b;part a is 5;");
    for (int i : NO_INDEX) is("INDEX " + i, x.fill(i), -1);
    is("no LEAF", x.fill(0), 0);
    int[] due = {33, 66, 100, 66, 83, 66, 77, 66};
    for (int n = 0; n < 8; n++) {
      x.insert(n + 10, 0, 0);
      is("of " + (n + 1), x.fill(0), due[n]);
    }
    is("no LEAF in p", x.fill(1), 0);
    for (int r = 0; r < 8; r++) x.remove(r);
    is("no LEAF again", x.fill(0), 0);
    is("7 of 8", told("page 8;index x plain on a;" + up(7)).fill(0), 87);
    is("without a TABLE", new LeafSweep().fill(0), -1);
  }

  // ---------------------------------------------------------------- promise 32

  @Says({"`int sparse(int index)`: SPARSE; NONE: others.", "SPARSE: LEAVES with fewer than half of page ENTRIES."})
  static void promise32_sparse() {
    LeafSweep x = told("page 4;index x plain on a;index p partial on a;index y down on b;part a is 50;" + up(9));
    for (int i : NO_INDEX) is("INDEX " + i, x.sparse(i), -1);
    is("3, 3, 3 of 4", x.sparse(0), 0);
    is("no LEAF", x.sparse(1), 0);
    x.remove(0);
    is("2 of 4 is half", x.sparse(0), 0);
    x.remove(1);
    is("1 of 4 is fewer", x.sparse(0), 1);
    x.remove(3);
    x.remove(4);
    x.remove(6);
    x.remove(7);
    is("1, 1, 1 of 4", x.sparse(0), 3);
    x = told("page 5;index x plain on a;" + up(3));
    is("3 of 5", x.sparse(0), 0);
    x.remove(0);
    is("2 of 5 is fewer than half", x.sparse(0), 1);
    is("1 of 2 is half", told("page 2;index x plain on a;" + up(1)).sparse(0), 0);
    is("1 of 3 is fewer", told("page 3;index x plain on a;" + up(1)).sparse(0), 1);
    is("3 of 8 is fewer", told("page 8;index x plain on a;" + up(3)).sparse(0), 1);
    is("4 of 8 is half", told("page 8;index x plain on a;" + up(4)).sparse(0), 0);
    is("without a TABLE", new LeafSweep().sparse(0), -1);
  }
}
