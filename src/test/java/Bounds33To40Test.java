/** Promises 33 to 40, sentence by sentence: what the ways cost, what comes next, the job and its records. */
public final class Bounds33To40Test extends Bounds {
  public static void main(String[] args) throws Exception { run(Bounds33To40Test.class); }

  private static final int[] NO_INDEX = {-1, 2, 3, 4, 32, LOW, HIGH};

  /** x is 0 1|2 3, y is 3 2|1|0; rows 0, 1, 2 go. */
  static final String FOUR = "page 2;batch 2;index x plain on a;index y down on b;row 1 1 0;row 2 2 0;row 3 3 0;row 4 4 0;choose a from 1 to 3;";

  /** Nine LEAVES of HEIGHT 2, 2 1|3 4|5 6| .. |15 16|17 0 by rows: row 0 has 30, rows 1 and 2 have 2 and 1. */
  static String nine(String choose) {
    StringBuilder s = new StringBuilder("page 3;batch 1;index x plain on a;row 30 0 0;row 2 0 0;row 1 0 0;");
    for (int i = 3; i <= 17; i++) s.append("row ").append(i).append(" 0 0;");
    return s + "choose " + choose + ";";
  }

  // ---------------------------------------------------------------- promise 33

  @Says({"`int costs(int index, int what)`: What 0: PASS, 1: PROBING costs now; NONE: others."})
  static void promise33_others() {
    LeafSweep x = told(FOUR);
    for (int i : NO_INDEX) for (int w = 0; w < 2; w++) is("INDEX " + i, x.costs(i, w), -1);
    for (int w : new int[] {-1, 2, 3, LOW, HIGH}) is("what " + w, x.costs(0, w), -1);
    is("PASS of x: 1, 2, 2", x.costs(0, 0), 5);
    is("PROBING of x: 3 times 3", x.costs(0, 1), 9);
    is("PASS of y: 2, 3, 3", x.costs(1, 0), 8);
    is("PROBING of y: 3 times 4", x.costs(1, 1), 12);
    is("without a TABLE", new LeafSweep().costs(0, 0), -1);
  }

  @Says({"PASS costs HEIGHT, and the LEAVES from the first to the last one with any LEFT, and how many LEAVES have any;", "PROBING costs HEIGHT + 2 for each one LEFT (0 each, if none is)."})
  static void promise33_passAndProbing() {
    String[][] due = {{"a is 99", "0", "0"}, {"a is 30", "4", "4"}, {"a is 1", "4", "4"}, {"a from 1 to 2", "4", "8"}, {"a from 2 to 3", "6", "8"}, {"a is 1 or a is 5", "7", "8"}, {"a is 30 or a is 1", "13", "8"},
        {"a is 30 or a from 1 to 2", "13", "12"}, {"a from 0 to 999", "20", "72"}, {"a from 16 to 17", "6", "8"}, {"a from 17 to 30", "4", "8"}, {"a is 1 or a is 9 or a is 17", "14", "12"}};
    for (String[] d : due) {
      LeafSweep x = told(nine(d[0]));
      is("PASS of " + d[0], x.costs(0, 0), Integer.parseInt(d[1]));
      is("PROBING of " + d[0], x.costs(0, 1), Integer.parseInt(d[2]));
    }
    is("PASS of one LEAF", told("page 4;index x plain on a;" + up(4)).costs(0, 0), 2);
    is("PROBING of one LEAF", told("page 4;index x plain on a;" + up(4)).costs(0, 1), 8);
    is("PASS of no LEAF", told("page 4;index p partial on a;part a is 99;" + up(4)).costs(0, 0), 0);
    is("PROBING of no LEAF", told("page 4;index p partial on a;part a is 99;" + up(4)).costs(0, 1), 0);
  }

  @Says({"LEFT of an INDEX: its ENTRIES of CHOSEN ROWS; without a JOB of those that BEGIN of all would choose (even if it can't be)."})
  static void promise33_whatIsLeft() {
    LeafSweep x = told(FOUR + "point firm at 1;");
    is("BEGIN can't be", x.begin(-1, 0, 0), -1);
    is("even so", x.costs(0, 0), 5);
    is("of an INDEX", x.begin(0, 2, 2), 1);
    is("CHOSEN ones alone: PASS", x.costs(0, 0), 3);
    is("CHOSEN ones alone: PROBING of y", x.costs(1, 1), 4);
    x.insert(2, 2, 2);
    is("one that BEGIN would choose is not LEFT", x.costs(1, 1), 4);
    x.step();
    is("none LEFT in x", x.costs(0, 0), 0);
    x.step();
    is("behind all: none LEFT", x.costs(1, 1), 0);
    x.step();
    is("the JOB is over: 0, 2 and 4", x.costs(1, 1), 3 * 4);
    x.remove(4);
    x.change(2, 0, 5);
    is("0 alone", x.costs(0, 1), 3);
  }

  // ---------------------------------------------------------------- promise 34

  @Says({"`int ways()`: WAYS, as bits.", "WAYS: INDEXES of which the WAY would be PASS now (bits; those with none LEFT, too)."})
  static void promise34_ways() {
    is("without a TABLE", new LeafSweep().ways(), 0);
    is("both", told(FOUR).ways(), 3);
    is("none LEFT", told(FOUR.replace("1 to 3", "9 to 9")).ways(), 3);
    is("as much: PASS", told(nine("a is 30")).ways(), 1);
    is("PROBING", told(nine("a is 30 or a is 1")).ways(), 0);
    is("PASS", told(nine("a is 1 or a is 5")).ways(), 1);
    String table = nine("a is 30 or a is 1").replace("index x plain on a;", "index k plain on b;index l down on a;index p partial on a;index q plain on a;part a is 99;");
    LeafSweep x = told(table);
    is("k has all in order of numbers: rows 0 and 2; p none", x.ways(), 5);
    x.begin(-1, 0, 0);
    steps(x, 2);
    is("k has none LEFT", x.ways(), 5);
    is("AT l", x.job(0), 1);
    is("PROBING", x.job(1), 1);
    x.step();
    is("one LEFT in l: it would be PASS now", x.ways(), 7);
    is("but it is PROBING", x.job(1), 1);
  }

  // ---------------------------------------------------------------- promise 35

  @Says({"`int turn(int index)`: TURN; NONE: others, none.", "TURN of an INDEX: the least number from 1 on,"})
  static void promise35_others() {
    LeafSweep x = told(FOUR);
    for (int i : NO_INDEX) is("INDEX " + i, x.turn(i), -1);
    is("none", x.turn(0), -1);
    is("none", x.turn(1), -1);
    is("no ENTRY", told("index x plain on a;").turn(0), -1);
    is("one ENTRY", told("index x plain on a;row 1 1 1;").turn(0), -1);
    is("without a TABLE", new LeafSweep().turn(0), -1);
  }

  @Says("so that, if of the ROWS with an ENTRY in it just so many, the first ones by numbers, were LEFT, the WAY would be PROBING.")
  static void promise35_theFirstOnesByNumbers() {
    is("30 and 2: PASS 13, PROBING 8", told(nine("a is 99")).turn(0), 2);
    is("30 and 2, whatever is LEFT", told(nine("a from 0 to 999")).turn(0), 2);
    String three = nine("a is 99").replace("row 30 0 0;row 2 0 0;row 1 0 0;", "row 1 0 0;row 2 0 0;row 30 0 0;");
    LeafSweep x = told(three);
    is("1 and 2: PASS 4, PROBING 8; and 30: PASS 13, PROBING 12", x.turn(0), 3);
    x.remove(0);
    is("2 and 30", x.turn(0), 2);
    x.undo();
    x.begin(0, 99, 99);
    is("no JOB", x.job(0), -1);
    x = told(three.replace("choose a is 99", "choose a is 2"));
    x.begin(-1, 0, 0);
    is("CHOSEN ones, too", x.turn(0), 3);
    x.remove(0);
    is("STALE ones, too", x.turn(0), 3);
    x.step();
    is("30, 3: PASS 2, 8 and 2, PROBING 8", x.turn(0), 2);
  }

  // ---------------------------------------------------------------- promise 36

  @Says({"`int lefts(int index, int k)`: LEFTS; NONE: others, no such LEAF.", "LEFTS: how many of a LEAF are LEFT."})
  static void promise36_lefts() {
    LeafSweep x = told(FOUR);
    for (int i : NO_INDEX) is("INDEX " + i, x.lefts(i, 0), -1);
    for (int k : new int[] {-1, 2, 3, 30, LOW, HIGH}) is("LEAF " + k, x.lefts(0, k), -1);
    is("both", x.lefts(0, 0), 2);
    is("one of two", x.lefts(0, 1), 1);
    is("y", x.lefts(1, 0), 1);
    is("y", x.lefts(1, 2), 1);
    is("no fourth one in y", x.lefts(1, 3), -1);
    x.begin(0, 3, 3);
    is("of CHOSEN ones: none", x.lefts(0, 0), 0);
    is("of CHOSEN ones: one", x.lefts(0, 1), 1);
    x.step();
    is("gone", x.lefts(0, 1), 0);
    is("no LEAF", told("index x plain on a;").lefts(0, 0), -1);
    is("without a TABLE", new LeafSweep().lefts(0, 0), -1);
  }

  // ---------------------------------------------------------------- promise 37

  @Says({"`int when(int index, int row)`: WHEN; NONE: others, no JOB, it is not LEFT.", "WHEN: at how many STEPS from now on"})
  static void promise37_when() {
    LeafSweep x = told(FOUR);
    is("no JOB", x.when(0, 0), -1);
    x.begin(-1, 0, 0);
    for (int i : NO_INDEX) is("INDEX " + i, x.when(i, 0), -1);
    for (int r : new int[] {-1, 3, 4, 29, 30, 31, 32, 33, LOW, HIGH}) for (int i = 0; i < 2; i++) is("row " + r, x.when(i, r), -1);
    int[][] due = {{1, 2, 3}, {6, 5, 4}};
    for (int i = 0; i < 2; i++) for (int r = 0; r < 3; r++) is("when(" + i + ", " + r + ")", x.when(i, r), due[i][r]);
    x.step();
    is("gone", x.when(0, 0), -1);
    is("in y still", x.when(1, 0), 5);
    is("the next one", x.when(0, 1), 1);
    is("nothing is done by the asking", x.job(3), 1);
    x.step();
    x.step();
    is("y", x.when(1, 2), 1);
    steps(x, 3);
    is("behind all", x.when(1, 0), -1);
    x.step();
    is("over", x.when(1, 0), -1);
    x = begun("index p partial on a;index x plain on a;row 1 0 0;row 2 1 0;part b is 0;", 2);
    is("no ENTRY in p", x.when(0, 1), -1);
    is("in x", x.when(1, 1), 3);
    x = told("batch 1;index x plain on a;index y plain on a;index z plain on a;index w plain on a;" + up(20));
    for (int i = 20; i < 30; i++) x.insert(i, i, i);
    x.begin(-1, 0, 0);
    is("the last of 120", x.when(3, 29), 120);
    is("without a TABLE", new LeafSweep().when(0, 0), -1);
  }

  @Says("(RESUMED ahead, if it is DOWN) the ENTRY of a ROW that is LEFT is TAKEN.")
  static void promise37_resumedAhead() {
    LeafSweep x = begun(FOUR, 3);
    x.step();
    x.crash();
    is("LEFT again", x.when(0, 0), 1);
    is("the last one", x.when(1, 0), 6);
    is("DOWN still", x.job(5), 1);
    is("nothing SPENT", x.count(6), 5);
    x = begun(nine("a is 30 or a from 1 to 2"), 3);
    is("PROBING: by numbers", x.when(0, 1), 2);
    x.step();
    x.crash();
    is("by the WAY as it was", x.when(0, 1), 1);
    is("by the WAY as it was", x.when(0, 2), 2);
  }

  // ---------------------------------------------------------------- promise 38

  @Says("`int next(int index, int i)`: NEXT; NONE: others, none such.")
  static void promise38_others() {
    LeafSweep x = told(FOUR);
    for (int i : NO_INDEX) is("INDEX " + i, x.next(i, 0), -1);
    int[][] due = {{0, 1, 2}, {2, 1, 0}};
    for (int i = 0; i < 2; i++) for (int k = 0; k < 3; k++) is("next(" + i + ", " + k + ")", x.next(i, k), due[i][k]);
    for (int k : new int[] {-1, 3, 4, 30, LOW, HIGH}) for (int i = 0; i < 2; i++) is("none such " + k, x.next(i, k), -1);
    is("none LEFT", told(FOUR.replace("1 to 3", "9 to 9")).next(0, 0), -1);
    is("none LEFT by PROBING", told(nine("a is 30 or a from 1 to 2")).next(0, 3), -1);
    is("no LEAF", told("index x plain on a;").next(0, 0), -1);
    is("without a TABLE", new LeafSweep().next(0, 0), -1);
  }

  @Says("NEXT, the i-th (from 0) LEFT of an INDEX by its WAY (that the JOB has, if it is AT it; else as it is now): the ROW.")
  static void promise38_byItsWay() {
    String table = nine("a is 30 or a from 1 to 2");
    LeafSweep x = told(table);
    int[] probing = {0, 1, 2, -1};
    for (int k = 0; k < 4; k++) is("no JOB: PROBING, by numbers", x.next(0, k), probing[k]);
    x.change(0, 0, 40);
    is("no JOB: PASS, by ORDER", x.next(0, 0), 2);
    is("no JOB: PASS, by ORDER", x.next(0, 1), 1);
    x = begun(table, 3);
    x.step();
    is("PASS would be the WAY now", x.ways(), 1);
    is("PROBING still", x.next(0, 0), 1);
    is("PROBING still", x.next(0, 1), 2);
    x.crash();
    is("DOWN, too", x.next(0, 0), 1);
    x = begun(table.replace("index x plain on a;", "index k plain on b;index x plain on a;"), 3);
    is("AT k", x.job(0), 0);
    is("x: as it is now", x.next(1, 0), 0);
    is("x: as it is now", x.next(1, 1), 1);
    is("k has PASS, all b being 0", x.next(0, 0), 0);
    x = begun(table.replace("index x plain on a;", "index k plain on b;index x plain on a;").replace("a is 30 or a from", "a from"), 2);
    is("x: PASS as it is now", x.next(1, 0), 2);
  }

  // ---------------------------------------------------------------- promise 39

  @Says({"`int job(int what)`: Of the JOB, what 0: AT (4: behind all), 1: WAY (0 PASS, 1 PROBING; NONE behind all), 2: CHOSEN, as bits, 3: gone SINCE, 4: RECORDS, 5: 1 DOWN (0: not), 6: how many are on the SIDE list;",
      "JOB: none, or ON: with the ROWS that are CHOSEN, the INDEX that it is AT (or behind all of them), the WAY there, ENTRIES gone SINCE the last RECORD, the RECORDS, the SIDE list, whether it is DOWN."})
  static void promise39_job() {
    LeafSweep x = begun(FOUR, 3);
    look("begun", x, 0, 0, 7, 0, 0, 0, 0);
    x.insert(9, 9, 9);
    look("one aside", x, 0, 0, 7, 0, 0, 0, 1);
    x.step();
    look("one gone", x, 0, 0, 7, 1, 0, 0, 1);
    x.crash();
    look("DOWN", x, 0, 0, 7, 0, 0, 1, 1);
    x.resume();
    steps(x, 2);
    look("a RECORD", x, 0, 0, 7, 0, 1, 0, 1);
    x.step();
    look("AT y", x, 1, 0, 7, 0, 2, 0, 0);
    steps(x, 3);
    look("behind all", x, 4, -1, 7, 0, 4, 0, 0);
    x.crash();
    look("DOWN behind all", x, 4, -1, 7, 0, 4, 1, 0);
    x.resume();
    x.step();
    look("over", x, -1, -1, -1, -1, -1, -1, -1);
    x = begun(nine("a is 30 or a from 1 to 2"), 3);
    look("PROBING", x, 0, 1, 7, 0, 0, 0, 0);
    x = begun("index k plain on a;index l plain on a;index m plain on a;index n plain on a;row 1 1 1;", 1);
    steps(x, 3);
    look("AT the fourth", x, 3, 0, 1, 0, 3, 0, 0);
    x.step();
    look("behind all four", x, 4, -1, 1, 0, 4, 0, 0);
    look("no INDEX", begun("row 1 1 1;row 2 2 2;choose a is 2;", 1), 4, -1, 2, 0, 0, 0, 0);
    x = told("");
    for (int i = 0; i < 30; i++) x.insert(i, i, i);
    x.begin(-1, 0, 0);
    is("30 CHOSEN", x.job(2), 0x3FFFFFFF);
  }

  private static void look(String when, LeafSweep x, int... due) { for (int w = 0; w < 7; w++) is(when + ", job(" + w + ")", x.job(w), due[w]); }

  @Says("NONE: others, no JOB.")
  static void promise39_others() {
    LeafSweep x = told(FOUR);
    for (int w = -1; w < 8; w++) is("no JOB, what " + w, x.job(w), -1);
    x.begin(-1, 0, 0);
    for (int w : new int[] {-1, 7, 8, 32, LOW, HIGH}) is("what " + w, x.job(w), -1);
    x.stop();
    for (int w = -1; w < 8; w++) is("stopped, what " + w, x.job(w), -1);
    is("without a TABLE", new LeafSweep().job(0), -1);
  }

  // ---------------------------------------------------------------- promise 40

  @Says({"`int record(int k, int what)`: Of the k-th RECORD (from 0), what 0: the INDEX, 1: how many ENTRIES were gone from that by the JOB then, 2: SPENT behind it;"})
  static void promise40_record() {
    LeafSweep x = begun(FOUR, 3);
    x.insert(9, 9, 9);
    is("PASS 5, aside 1, PUT at HEIGHT 2", x.count(6), 10);
    steps(x, 3);
    is("x: RECORDS 11 and 12, PUT 2; y, 4 3|2|1|0, has HEIGHT 2: PASS 2, 3 and 3", x.count(6), 22);
    steps(x, 3);
    int[][] due = {{0, 2, 11}, {0, 3, 12}, {1, 2, 23}, {1, 3, 24}};
    for (int k = 0; k < 4; k++) for (int w = 0; w < 3; w++) is("record(" + k + ", " + w + ")", x.record(k, w), due[k][w]);
    x = begun(FOUR.replace("batch 2", "batch 8"), 3);
    steps(x, 2);
    x.crash();
    x.resume();
    steps(x, 3);
    is("those that came back are not gone twice", x.record(0, 1), 3);
    is("PASS 5 and 5, RECORD", x.record(0, 2), 11);
    is("one RECORD of x", x.job(4), 1);
  }

  @Says("NONE: others, no JOB, none such.")
  static void promise40_others() {
    LeafSweep x = told(FOUR);
    is("no JOB", x.record(0, 0), -1);
    x.begin(-1, 0, 0);
    for (int k : new int[] {-1, 0, 1, LOW, HIGH}) is("none yet", x.record(k, 0), -1);
    steps(x, 2);
    is("the first one", x.record(0, 0), 0);
    for (int w : new int[] {-1, 3, 4, LOW, HIGH}) is("what " + w, x.record(0, w), -1);
    for (int k : new int[] {-1, 1, 2, 120, LOW, HIGH}) for (int w = 0; w < 3; w++) is("RECORD " + k, x.record(k, w), -1);
    x.crash();
    is("DOWN", x.record(0, 1), 2);
    x.resume();
    steps(x, 4);
    is("behind all", x.record(3, 1), 3);
    x.step();
    is("over", x.record(0, 0), -1);
    x = told("batch 1;index x plain on a;index y plain on a;index z plain on a;index w plain on a;" + up(20));
    for (int i = 20; i < 30; i++) x.insert(i, i, i);
    x.begin(-1, 0, 0);
    steps(x, 120);
    is("120", x.job(4), 120);
    is("the 120th", x.record(119, 0) * 100 + x.record(119, 1), 330);
    is("no 121st", x.record(120, 0), -1);
    is("without a TABLE", new LeafSweep().record(0, 0), -1);
  }
}
