/** Promises 41 to 47, sentence by sentence: what would be, and sorting in a small memory. */
public final class Bounds41To47Test extends Bounds {
  public static void main(String[] args) throws Exception { run(Bounds41To47Test.class); }

  /** x is 0 1|2 3, y is 3 2|1|0; rows 0, 1, 2 go. */
  private static final String FOUR = Bounds33To40Test.FOUR;
  /** x on a, y on b; row 0 goes (a is 1). */
  private static final String SIDED = "index x plain on a;index y plain on b;row 1 1 1;row 2 2 2;choose a is 1;";
  /** One INDEX with six LEFT. */
  private static final String SIX = "batch 2;index x plain on a;" + up(6);
  private static final String FOUR_INDEXES = "index x plain on a;index y plain on a;index z plain on a;index w plain on a;";

  /** 30 ROWS, all CHOSEN. */
  private static LeafSweep thirty(String head) {
    LeafSweep x = told(head + up(20));
    for (int i = 20; i < 30; i++) x.insert(i, 0, 0);
    is("begin", x.begin(-1, 0, 0), 30);
    return x;
  }

  // ---------------------------------------------------------------- promise 41

  @Says({"`int steps()`: STEPS; NONE: no JOB.", "STEPS: how many more STEPS till the JOB is over."})
  static void promise41_steps() {
    LeafSweep x = told(FOUR);
    is("no JOB", x.steps(), -1);
    x.begin(-1, 0, 0);
    for (int n = 7; n >= 1; n--) {
      is("so many", x.steps(), n);
      x.step();
    }
    is("over", x.steps(), -1);
    x = begun(FOUR, 3);
    x.step();
    is("six", x.steps(), 6);
    x.crash();
    is("seven again", x.steps(), 7);
    x.resume();
    is("seven", x.steps(), 7);
    x.stop();
    is("stopped", x.steps(), -1);
    is("one without an INDEX", begun("row 1 1 1;", 1).steps(), 1);
    is("one without an ENTRY", begun("index p partial on a;row 1 1 1;part a is 2;", 1).steps(), 1);
    is("121", thirty(FOUR_INDEXES).steps(), 121);
    is("without a TABLE", new LeafSweep().steps(), -1);
  }

  // ---------------------------------------------------------------- promise 42

  @Says({"`int after(int steps, int what)`: AFTER, what 0 to 3; -2: others.", "AFTER of so many STEPS from now on (0 to 150;"})
  static void promise42_others() {
    LeafSweep x = begun(FOUR, 3);
    for (int s : new int[] {-1, 151, 152, LOW, HIGH}) for (int w = 0; w < 4; w++) is("steps " + s, x.after(s, w), -2);
    for (int w : new int[] {-1, 4, 5, LOW, HIGH}) is("what " + w, x.after(0, w), -2);
    is("0", x.after(0, 0), 0);
    is("150", x.after(150, 0), -1);
    is("without a TABLE", new LeafSweep().after(0, 0), -1);
    is("without a TABLE", new LeafSweep().after(151, 0), -2);
    x = thirty("batch 1;" + FOUR_INDEXES);
    int[][] due = {{0, 0, 0}, {29, 0, 29}, {30, 1, 30}, {119, 3, 119}, {120, 4, 120}, {121, -1, 0}, {150, -1, 0}};
    for (int[] d : due) {
      is("AT behind " + d[0], x.after(d[0], 0), d[1]);
      is("RECORDS behind " + d[0], x.after(d[0], 3), d[2]);
    }
  }

  @Says("0: AT (NONE: no JOB; 4: behind all INDEXES), 1: SPENT, 2: LEAVES of all INDEXES, 3: RECORDS (0: no JOB).")
  static void promise42_after() {
    LeafSweep x = begun(FOUR, 3);
    int[][] due = {{0, 0, 5, 5, 0}, {1, 0, 5, 5, 0}, {2, 0, 6, 4, 1}, {3, 1, 15, 4, 2}, {4, 1, 15, 4, 2}, {5, 1, 16, 3, 3}, {6, 4, 17, 2, 4}, {7, -1, 17, 2, 0}};
    for (int[] d : due) for (int w = 0; w < 4; w++) is("after(" + d[0] + ", " + w + ")", x.after(d[0], w), d[w + 1]);
    is("nothing is done by the asking", x.count(6), 5);
    x.insert(9, 9, 9);
    is("1 and 4", x.after(0, 1), 10);
    is("with the SIDE list: x 1 of 2, y 4", x.after(3, 2), 5);
    x = told(FOUR);
    int[] none = {-1, 0, 5, 0};
    for (int w = 0; w < 4; w++) for (int s : new int[] {0, 1, 150}) is("no JOB, after(" + s + ", " + w + ")", x.after(s, w), none[w]);
    is("nothing begins", x.job(0), -1);
  }

  @Says("2: LEAVES of all INDEXES,")
  static void promise42_leavesOfFourIndexes() {
    LeafSweep x = told("page 2;" + FOUR_INDEXES + up(5) + "choose a is 0;");
    is("three each", x.after(0, 2), 12);
    x.begin(-1, 0, 0);
    is("the same while there is a JOB", x.after(0, 2), 12);
    is("row 0 was not alone", x.after(150, 2), 12);
    is("four of them: three, three, three, four", told("page 2;index k plain on a;index l plain on b;index m down on c;index n down on a;row 1 5 5;row 2 5 5;row 3 5 5;row 4 5 5;row 5 5 5;").after(0, 2), 3 + 3 + 3 + 4);
    is("no INDEX", told(up(3)).after(0, 2), 0);
  }

  @Says("RESUMED ahead, if it is DOWN; as far as can be):")
  static void promise42_resumedAheadAndAsFarAsCanBe() {
    LeafSweep x = begun(FOUR, 3);
    x.step();
    x.crash();
    is("0 STEPS, RESUMED: PASS 5 again", x.after(0, 1), 10);
    is("AT", x.after(0, 0), 0);
    is("LEAVES", x.after(0, 2), 5);
    is("RECORDS", x.after(2, 3), 1);
    is("all the STEPS", x.after(7, 1), 22);
    is("more than there are", x.after(8, 1), 22);
    is("150", x.after(150, 1), 22);
    is("over", x.after(150, 0), -1);
    is("DOWN still", x.job(5), 1);
    is("nothing SPENT", x.count(6), 5);
    x.resume();
    is("not DOWN: as it is", x.after(0, 1), 10);
  }

  // ---------------------------------------------------------------- promise 43

  @Says({"`int during(int steps, int a, int b, int c, int what)`: DURING, what 0 to 2; -2: others (a, b, c, too).", "DURING: so many STEPS (0 to 150;"})
  static void promise43_others() {
    LeafSweep x = begun(SIDED, 1);
    for (int s : new int[] {-1, 151, LOW, HIGH}) for (int w = 0; w < 3; w++) is("steps " + s, x.during(s, 1, 1, 1, w), -2);
    for (int w : new int[] {-1, 3, 4, LOW, HIGH}) is("what " + w, x.during(0, 1, 1, 1, w), -2);
    for (int v : new int[] {-1, 1000, LOW, HIGH}) {
      is("a " + v, x.during(0, v, 1, 1, 0), -2);
      is("b " + v, x.during(0, 1, v, 1, 0), -2);
      is("c " + v, x.during(0, 1, 1, v, 0), -2);
    }
    is("0", x.during(0, 0, 0, 0, 0), 2);
    is("999 and 150", x.during(150, 999, 999, 999, 0), 2);
    is("nothing is done by the asking", x.count(3), 2);
    is("without a TABLE", new LeafSweep().during(150, 1, 2, 3, 0), 0);
  }

  @Says("then an INSERT, then STEPS till the JOB is over (if there is one): 0 the ROW (NONE: refused), 1 SPENT, 2 LEAVES of all INDEXES.")
  static void promise43_during() {
    LeafSweep x = told(SIDED);
    is("no JOB: the ROW", x.during(7, 7, 8, 9, 0), 2);
    is("no JOB: SPENT", x.during(7, 7, 8, 9, 1), 4);
    is("no JOB: LEAVES", x.during(7, 7, 8, 9, 2), 2);
    x.begin(-1, 0, 0);
    int[][] spent = {{0, 11}, {1, 11}, {2, 10}, {3, 10}, {4, 10}, {150, 10}};
    for (int[] s : spent) {
      is("the ROW behind " + s[0], x.during(s[0], 7, 8, 9, 0), 2);
      is("SPENT behind " + s[0], x.during(s[0], 7, 8, 9, 1), s[1]);
      is("LEAVES behind " + s[0], x.during(s[0], 7, 8, 9, 2), 2);
    }
    x = begun("index o once on a;row 1 1 1;row 2 2 2;row 3 3 3;choose a from 1 to 2;", 2);
    is("a VISIBLE one's", x.during(0, 3, 1, 1, 0), -1);
    is("the STEPS all the same: PASS 2, RECORD 1", x.during(0, 3, 1, 1, 1), 3);
    is("LEAVES", x.during(0, 3, 1, 1, 2), 1);
    is("a CHOSEN one's", x.during(0, 2, 1, 1, 0), 3);
    is("one's that is THERE no more", x.during(3, 2, 1, 1, 0), 3);
    x = thirty("index x plain on a;");
    is("30 have come", x.during(0, 1, 1, 1, 0), -1);
    is("all go", x.during(0, 1, 1, 1, 2), 0);
    x = begun(SIDED, 1);
    for (int i = 0; i < 20; i++) x.change(1, 0, 2 + (i + 1) % 2);
    is("the SIDE list is full", x.during(0, 1, 1, 1, 0), -1);
    is("behind it, it is not", x.during(1, 1, 1, 1, 0), 2);
    x = thirty(FOUR_INDEXES + "batch 1;");
    is("behind 120 STEPS there is one more", x.during(120, 1, 1, 1, 1), x.after(150, 1));
  }

  @Says("RESUMED ahead, if it is DOWN; as far as can be),")
  static void promise43_resumedAhead() {
    LeafSweep x = begun(SIDED, 1);
    x.crash();
    is("PASS 2 and 2, aside 1, PUT 2, RECORD 1, PUT 2, PASS 2, RECORD 1", x.during(0, 7, 8, 9, 1), 13);
    is("behind 2", x.during(2, 7, 8, 9, 1), 12);
    is("more than there are", x.during(150, 7, 8, 9, 1), 12);
    is("the ROW", x.during(150, 7, 8, 9, 0), 2);
    is("DOWN still", x.job(5), 1);
    is("nothing SPENT", x.count(6), 2);
  }

  // ---------------------------------------------------------------- promise 44

  @Says({"`int crashes(int n, int batch)`: CRASHES; NONE: others, no JOB,", "CRASHES of n (1 to 50), by a batch of 1 to 8 from now on:"})
  static void promise44_others() {
    LeafSweep x = told(SIX);
    is("no JOB", x.crashes(1, 1), -1);
    x.begin(-1, 0, 0);
    for (int n : new int[] {-1, 0, 51, 52, LOW, HIGH}) is("n " + n, x.crashes(n, 1), -1);
    for (int b : new int[] {-1, 0, 9, 10, LOW, HIGH}) is("batch " + b, x.crashes(50, b), -1);
    is("1, 1", x.crashes(1, 1), 7);
    is("50, 8", x.crashes(50, 8), 7);
    is("nothing is done by the asking", x.job(3), 0);
    is("the batch stays", x.count(1), 2);
    steps(x, 1);
    is("it stays for STEPS, too", x.job(3), 1);
    is("without a TABLE", new LeafSweep().crashes(1, 1), -1);
  }

  @Says({"how many STEPS there are in all till the JOB is over,", "if a CRASH and a RESUME come behind each n-th STEP (not behind the last one)."})
  static void promise44_crashes() {
    LeafSweep x = begun(SIX, 6);
    int[][] due = {{1, 1, 7}, {1, 2, -1}, {1, 8, -1}, {2, 2, 7}, {2, 3, -1}, {3, 2, 9}, {3, 3, 7}, {4, 3, 8}, {5, 3, 9}, {5, 5, 7}, {5, 8, -1}, {6, 8, 7}, {7, 8, 7}, {50, 8, 7}, {4, 4, 7}, {5, 4, 8}, {3, 1, 7}};
    for (int[] d : due) is("crashes(" + d[0] + ", " + d[1] + ")", x.crashes(d[0], d[1]), d[2]);
    x.step();
    is("one gone SINCE is enough for a batch of 1", x.crashes(1, 1), 6);
    is("two of a batch of 2, then in vain", x.crashes(1, 2), -1);
    is("2 kept, 1 lost, 2 kept, 2 kept", x.crashes(2, 2), 7);
    is("behind all", behindAll().crashes(1, 8), 1);
    is("one LEFT", begun("index x plain on a;row 1 1 1;", 1).crashes(1, 8), 2);
  }

  private static LeafSweep behindAll() {
    LeafSweep x = begun(SIX, 6);
    steps(x, 6);
    return x;
  }

  @Says("RESUMED ahead, if it is DOWN,")
  static void promise44_resumedAhead() {
    LeafSweep x = begun(SIX, 6);
    x.step();
    x.crash();
    is("all six again", x.crashes(50, 8), 7);
    is("all six again", x.crashes(3, 2), 9);
    is("DOWN still", x.job(5), 1);
  }

  @Says("not by 200.")
  static void promise44_notBy200() {
    LeafSweep x = thirty(FOUR_INDEXES);
    is("121 without a CRASH in vain", x.crashes(1, 1), 121);
    is("199: three of each five are kept", x.crashes(5, 3), 199);
    is("202 would be too many", x.crashes(13, 8), -1);
    is("ever in vain", x.crashes(1, 2), -1);
  }

  // ---------------------------------------------------------------- promises 45 to 47

  /** a is 5 3 8 1 9 2 by numbers. */
  private static final String MIXED = "index x plain on a;index y down on a;index p partial on a;index e plain on b;row 5 0 0;row 3 0 0;row 8 0 0;row 1 0 0;row 9 0 0;row 2 0 0;part a is 999;";

  @Says({"`int runs(int index, int memory)`: RUNS; NONE: others.", "SORTED by a memory of m (1 to 8):", "RUNS: how many;"})
  static void promise45_runs() {
    LeafSweep x = told(MIXED);
    for (int i : new int[] {-1, 4, 5, 32, LOW, HIGH}) is("INDEX " + i, x.runs(i, 1), -1);
    for (int m : new int[] {-1, 0, 9, 10, LOW, HIGH}) for (int i = 0; i < 4; i++) is("memory " + m, x.runs(i, m), -1);
    int[][] due = {{4, 2, 2, 2, 1, 1, 1, 1}, {3, 2, 2, 2, 1, 1, 1, 1}, {0, 0, 0, 0, 0, 0, 0, 0}, {1, 1, 1, 1, 1, 1, 1, 1}};
    for (int i = 0; i < 4; i++) for (int m = 1; m <= 8; m++) is("runs(" + i + ", " + m + ")", x.runs(i, m), due[i][m - 1]);
    is("without a TABLE", new LeafSweep().runs(0, 1), -1);
  }

  @Says({"those LEFT of an INDEX come by numbers; the first m come into the memory;", "of those in it that are not ahead in ORDER of the last one that went out the first one goes out, and the next one comes in, on and on;",
      "if there is none such (at first, too) a new RUN begins, with the first one of all in it."})
  static void promise45_sorted() {
    LeafSweep x = thirty("index x plain on a;index y down on a;");
    is("all upwards", x.runs(0, 1), 1);
    is("all against it", x.runs(1, 1), 30);
    for (int m = 2; m <= 8; m++) is("all against it by " + m, x.runs(1, m), (30 + m - 1) / m);
    LeafSweep y = told(MIXED.replace("row 5 0 0;", "row 5 0 0;row 7 1 0;") + "choose b is 0;");
    is("those LEFT alone", y.runs(0, 1), 4);
    y.begin(-1, 0, 0);
    is("those LEFT alone", y.runs(0, 1), 4);
    y.step();
    is("1 is gone: 5, 3 8 9, 2", y.runs(0, 1), 3);
    y.step();
    is("2 is gone: 5, 3 8 9", y.runs(0, 1), 2);
    is("y: 5 3, 8 1, 9 2", y.runs(1, 1), 3);
    steps(y, 4);
    is("none LEFT in x", y.runs(0, 1), 0);
  }

  @Says({"`int run(int index, int memory, int k)`: LONG, of the k-th RUN (from 0); NONE: others, none such.", "LONG: how many go out in a RUN."})
  static void promise46_run() {
    LeafSweep x = told(MIXED);
    for (int i : new int[] {-1, 4, 5, LOW, HIGH}) is("INDEX " + i, x.run(i, 1, 0), -1);
    for (int m : new int[] {-1, 0, 9, LOW, HIGH}) is("memory " + m, x.run(0, m, 0), -1);
    lengths(x, 0, 1, 1, 2, 2, 1);
    lengths(x, 0, 2, 4, 2);
    lengths(x, 0, 3, 4, 2);
    lengths(x, 0, 4, 5, 1);
    lengths(x, 0, 5, 6);
    lengths(x, 0, 8, 6);
    lengths(x, 1, 1, 2, 2, 2);
    lengths(x, 1, 2, 3, 3);
    lengths(x, 1, 3, 5, 1);
    lengths(x, 1, 5, 6);
    lengths(x, 2, 1);
    lengths(x, 3, 1, 6);
    LeafSweep y = thirty("index x plain on a;index y down on a;");
    lengths(y, 0, 8, 30);
    lengths(y, 1, 8, 8, 8, 8, 6);
    is("the 30th of 30", y.run(1, 1, 29), 1);
    is("no 31st", y.run(1, 1, 30), -1);
    is("without a TABLE", new LeafSweep().run(0, 1, 0), -1);
  }

  @Says({"`int merged(int index, int memory)`: MERGED; NONE: others.", "MERGED: two RUNS are made one at the cost of their lengths together: the least for which all become one (0: fewer than two)."})
  static void promise47_merged() {
    LeafSweep x = told(MIXED);
    for (int i : new int[] {-1, 4, 5, LOW, HIGH}) is("INDEX " + i, x.merged(i, 1), -1);
    for (int m : new int[] {-1, 0, 9, LOW, HIGH}) is("memory " + m, x.merged(0, m), -1);
    is("1 2 2 1: 2, 4, 6", x.merged(0, 1), 12);
    is("4 2: 6", x.merged(0, 2), 6);
    is("one RUN", x.merged(0, 8), 0);
    is("2 2 2: 4, 6", x.merged(1, 1), 10);
    is("no RUN", x.merged(2, 1), 0);
    LeafSweep y = thirty("index x plain on a;index y down on a;");
    is("thirty of 1: fourteen times 2 and one, .. as for a code of 30 signs", y.merged(1, 1), 30 * 5 - 2);
    is("8 8 8 6: 14, 16, 30", y.merged(1, 8), 60);
    is("one RUN of 30", y.merged(0, 1), 0);
    y = told("index x plain on a;row 1 0 0;row 2 0 0;row 3 0 0;row 4 0 0;row 3 0 0;row 2 0 0;row 3 0 0;row 4 0 0;row 5 0 0;row 1 0 0;row 0 0 0;");
    is("4 1 4 1 1: 2, 3, 7, 11", y.merged(0, 1), 23);
    is("without a TABLE", new LeafSweep().merged(0, 1), -1);
  }

  private static void lengths(LeafSweep x, int index, int memory, int... due) {
    for (int k = 0; k < due.length; k++) is("run(" + index + ", " + memory + ", " + k + ")", x.run(index, memory, k), due[k]);
    for (int k : new int[] {-1, due.length, due.length + 1, LOW, HIGH}) is("none such " + k, x.run(index, memory, k), -1);
  }
}
