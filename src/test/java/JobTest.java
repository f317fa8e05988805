/** Promises 33 to 47: what the ways cost, what comes next, what would be, and sorting in a small memory. */
public final class JobTest {
  public static void main(String[] args) {
    costing();
    turning();
    lefts();
    when();
    next();
    jobs();
    records();
    stepsAndAfter();
    during();
    crashes();
    sorting();
    Due.end();
  }

  private static void costing() {
    LeafSweep x = Due.told(HandTest.FOUR);
    Due.due("33: pass of x", x.costs(0, 0), 5);
    Due.due("33: probing of x", x.costs(0, 1), 9);
    Due.due("33: pass of y", x.costs(1, 0), 8);
    Due.due("33: probing of y", x.costs(1, 1), 12);
    int[][] others = {{0, 2}, {0, -1}, {2, 0}, {-1, 0}};
    for (int[] o : others) Due.due("33: others", x.costs(o[0], o[1]), -1);
    Due.due("34: both", x.ways(), 3);
    x.begin(0, 2, 3);
    Due.due("33: of those chosen: y", x.costs(1, 0), 6);
    Due.due("33: of those chosen: x", x.costs(0, 0), 5);
    x.step();
    Due.due("33: of those left", x.costs(0, 0), 3);
    x.step();
    Due.due("33: none left", x.costs(0, 0), 0);
    Due.due("33: none left", x.costs(0, 1), 0);
    Due.due("34: none left, too", x.ways(), 3);
    x = Due.told(HandTest.ENDS);
    Due.due("33: pass from end to end", x.costs(0, 0), 11);
    Due.due("33: probing", x.costs(0, 1), 10);
    Due.due("34: probing", x.ways(), 0);
    x = Due.told("row 1 1 1;point firm at 1;");
    Due.due("34: no index", x.ways(), 0);
    x = Due.told("page 2;index x plain on a;" + HandTest.upwards(4) + "point firm at 0;");
    Due.due("14: it can't be", x.begin(-1, 0, 0), -1);
    Due.due("33: even if it can't be", x.costs(0, 0), 1 + 2 + 2);
  }

  private static void turning() {
    LeafSweep x = Due.told(HandTest.ENDS);
    Due.due("35: at two", x.turn(0), 2);
    Due.due("35: others", x.turn(1), -1);
    Due.due("35: others", x.turn(-1), -1);
    StringBuilder rows = new StringBuilder("page 2;index x plain on a;row 1 0 0;row 2 0 0;row 900 0 0;");
    for (int a = 3; a < 20; a++) rows.append("row ").append(a).append(" 0 0;");
    LeafSweep y = Due.told(rows.toString());
    for (int a = 20; a < 25; a++) y.insert(a, 0, 0);
    Due.due("35: thirteen leaves, two in the first, one in the last", y.turn(0), 3);
    y.remove(0);
    Due.due("35: now at two", y.turn(0), 2);
    Due.due("35: none", Due.told(HandTest.FOUR).turn(0), -1);
    Due.due("35: no entry", Due.told("index x plain on a;").turn(0), -1);
    x.begin(-1, 0, 0);
    x.step();
    Due.due("35: of those with an entry", x.turn(0), -1);
  }

  private static void lefts() {
    LeafSweep x = Due.told(HandTest.FOUR);
    int[] due = {2, 1, -1};
    for (int k = 0; k < 3; k++) Due.due("36: lefts(0, " + k + ")", x.lefts(0, k), due[k]);
    Due.due("36: none such", x.lefts(0, -1), -1);
    Due.due("36: others", x.lefts(2, 0), -1);
    Due.due("36: others", x.lefts(-1, 0), -1);
    x.begin(0, 1, 1);
    Due.due("36: chosen alone", x.lefts(0, 0), 1);
    Due.due("36: none", x.lefts(0, 1), 0);
    x.step();
    Due.due("36: gone", x.lefts(0, 0), 0);
  }

  private static void when() {
    LeafSweep x = Due.told(HandTest.FOUR);
    Due.due("37: no job", x.when(0, 0), -1);
    x.begin(-1, 0, 0);
    int[][] due = {{1, 2, 3, -1}, {6, 5, 4, -1}};
    for (int i = 0; i < 2; i++) for (int r = 0; r < 4; r++) Due.due("37: when(" + i + ", " + r + ")", x.when(i, r), due[i][r]);
    int[][] others = {{2, 0}, {-1, 0}, {0, 4}, {0, -1}, {0, 32}, {0, Integer.MIN_VALUE}};
    for (int[] o : others) Due.due("37: others", x.when(o[0], o[1]), -1);
    x.step();
    Due.due("37: gone", x.when(0, 0), -1);
    Due.due("37: one step fewer", x.when(1, 0), 5);
    x.crash();
    Due.due("37: down", x.when(0, 0), 1);
    Due.due("37: down", x.when(1, 0), 6);
    Due.due("37: it is down still", x.job(5), 1);
    x = Due.told(HandTest.ENDS);
    x.begin(-1, 0, 0);
    Due.due("37: probing", x.when(0, 0), 1);
    Due.due("37: probing", x.when(0, 1), 2);
  }

  private static void next() {
    LeafSweep x = Due.told(HandTest.FOUR);
    int[] up = {0, 1, 2, -1};
    int[] down = {2, 1, 0, -1};
    for (int i = 0; i < 4; i++) Due.due("38: x", x.next(0, i), up[i]);
    for (int i = 0; i < 4; i++) Due.due("38: y", x.next(1, i), down[i]);
    Due.due("38: others", x.next(2, 0), -1);
    Due.due("38: others", x.next(-1, 0), -1);
    Due.due("38: none such", x.next(0, -1), -1);
    Due.due("38: none such", x.next(0, Integer.MAX_VALUE), -1);
    x = Due.told(HandTest.ENDS);
    Due.due("38: probing", x.next(0, 0), 0);
    Due.due("38: probing", x.next(0, 1), 1);
    x = Due.told("page 2;batch 8;index x down on a;row 1 0 0;row 12 0 0;row 2 0 0;row 3 0 0;row 4 0 0;row 5 0 0;row 6 0 0;row 7 0 0;row 8 0 0;row 9 0 0;row 10 0 0;"
        + "row 11 0 0;choose a is 12 or a from 1 to 2;");
    int way = x.ways();
    x.begin(-1, 0, 0);
    Due.due("38: the job's way", x.job(1), way == 0 ? 1 : 0);
    for (int n = x.steps(); n > 1; n--) {
      int row = x.next(0, 0);
      Due.due("38: what goes next", x.step(), row);
    }
    x = Due.told(HandTest.ENDS);
    x.begin(-1, 0, 0);
    x.step();
    Due.due("38: would be pass now", x.ways(), 1);
    Due.due("38: but the job has probing", x.job(1), 1);
  }

  private static void jobs() {
    LeafSweep x = Due.told(HandTest.FOUR);
    for (int w = -1; w < 8; w++) Due.due("39: no job", x.job(w), -1);
    x.begin(-1, 0, 0);
    x.step();
    x.insert(9, 9, 9);
    int[] due = {0, 0, 7, 1, 0, 0, 1, -1};
    for (int w = 0; w < 8; w++) Due.due("39: job(" + w + ")", x.job(w), due[w]);
    Due.due("39: others", x.job(-1), -1);
    x.step();
    x.step();
    x.crash();
    int[] then = {1, 0, 7, 0, 2, 1, 0, -1};
    for (int w = 0; w < 8; w++) Due.due("39: then job(" + w + ")", x.job(w), then[w]);
    x.resume();
    for (int i = 0; i < 3; i++) x.step();
    int[] last = {4, -1, 7, 0, 4, 0, 0, -1};
    for (int w = 0; w < 8; w++) Due.due("39: at last job(" + w + ")", x.job(w), last[w]);
  }

  private static void records() {
    LeafSweep x = Due.told(HandTest.FOUR);
    Due.due("40: no job", x.record(0, 0), -1);
    x.begin(-1, 0, 0);
    Due.due("40: none", x.record(0, 0), -1);
    for (int i = 0; i < 6; i++) x.step();
    int[][] due = {{0, 2, 6}, {0, 3, 7}, {1, 2, 16}, {1, 3, 17}};
    for (int k = 0; k < 4; k++) for (int w = 0; w < 3; w++) Due.due("40: record(" + k + ", " + w + ")", x.record(k, w), due[k][w]);
    int[][] others = {{4, 0}, {-1, 0}, {0, 3}, {0, -1}, {Integer.MAX_VALUE, 0}};
    for (int[] o : others) Due.due("40: others", x.record(o[0], o[1]), -1);
    x.step();
    Due.due("40: over", x.record(0, 0), -1);
    x = Due.told("batch 1;index x plain on a;index y plain on a;index z plain on a;index w plain on a;" + HandTest.upwards(20));
    for (int i = 20; i < 30; i++) x.insert(i, i, i);
    x.begin(-1, 0, 0);
    Due.due("41: all", x.steps(), 121);
    for (int i = 0; i < 120; i++) x.step();
    Due.due("40: 120 records", x.job(4), 120);
    Due.due("40: the last one's index", x.record(119, 0), 3);
    Due.due("40: the last one's gone", x.record(119, 1), 30);
    Due.due("40: the last one's spent", x.record(119, 2), x.count(6));
  }

  private static void stepsAndAfter() {
    LeafSweep x = Due.told(HandTest.FOUR);
    Due.due("41: no job", x.steps(), -1);
    Due.due("42: no job", x.after(0, 0), -1);
    Due.due("42: no job", x.after(3, 3), 0);
    Due.due("42: leaves", x.after(3, 2), 5);
    Due.due("42: spent", x.after(3, 1), 0);
    x.begin(-1, 0, 0);
    Due.due("41: seven", x.steps(), 7);
    int[][] due = {{0, 0, 5, 5, 0}, {1, 0, 5, 5, 0}, {2, 0, 6, 4, 1}, {3, 1, 15, 4, 2}, {4, 1, 15, 4, 2}, {5, 1, 16, 3, 3}, {6, 4, 17, 2, 4}, {7, -1, 17, 2, 0}, {150, -1, 17, 2, 0}};
    for (int[] d : due) for (int w = 0; w < 4; w++) Due.due("42: after(" + d[0] + ", " + w + ")", x.after(d[0], w), d[w + 1]);
    int[][] others = {{0, 4}, {0, -1}, {-1, 0}, {151, 0}, {Integer.MIN_VALUE, 0}};
    for (int[] o : others) Due.due("42: others", x.after(o[0], o[1]), -2);
    x.step();
    Due.due("41: six", x.steps(), 6);
    x.crash();
    Due.due("41: seven once more", x.steps(), 7);
    Due.due("42: resumed ahead", x.after(0, 1), 10);
    Due.due("42: resumed ahead", x.after(7, 1), 22);
    Due.due("42: not by the asking", x.count(6), 5);
  }

  private static void during() {
    LeafSweep x = Due.told(HandTest.FOUR);
    Due.due("43: without a job", x.during(5, 9, 9, 9, 0), 4);
    Due.due("43: without a job", x.during(5, 9, 9, 9, 1), 7);
    Due.due("43: without a job", x.during(5, 9, 9, 9, 2), 7);
    x.begin(-1, 0, 0);
    int[] due = {4, 24, 2};
    for (int w = 0; w < 3; w++) Due.due("43: during(1, 9, 9, 9, " + w + ")", x.during(1, 9, 9, 9, w), due[w]);
    Due.due("43: behind all of it", x.during(150, 9, 9, 9, 1), 17 + 2 + 2);
    int[][] others = {{-1, 9, 9, 9, 0}, {151, 9, 9, 9, 0}, {0, -1, 9, 9, 0}, {0, 1000, 9, 9, 0}, {0, 9, -1, 9, 0}, {0, 9, 1000, 9, 0}, {0, 9, 9, -1, 0}, {0, 9, 9, 1000, 0}, {0, 9, 9, 9, 3}, {0, 9, 9, 9, -1}};
    for (int[] o : others) Due.due("43: others", x.during(o[0], o[1], o[2], o[3], o[4]), -2);
    Due.due("43: nothing is done", x.count(3), 4);
    Due.due("43: nothing is spent", x.count(6), 5);
    x.step();
    x.crash();
    Due.due("43: resumed ahead", x.during(0, 9, 9, 9, 0), 4);
    Due.due("43: resumed ahead: 5 and 5, aside 1, put 4, records 1 and 1, put 2, pass 8, records 1 and 1", x.during(0, 9, 9, 9, 1), 29);
    x = Due.told("index o once on a;row 1 1 1;row 2 2 2;choose a is 1;");
    x.begin(-1, 0, 0);
    Due.due("43: refused", x.during(0, 2, 1, 1, 0), -1);
    Due.due("43: refused, steps all the same", x.during(0, 2, 1, 1, 1), 2 + 1);
    Due.due("43: a chosen one's value", x.during(0, 1, 1, 1, 0), 2);
  }

  private static void crashes() {
    LeafSweep x = Due.told(HandTest.FOUR);
    Due.due("44: no job", x.crashes(1, 1), -1);
    x.begin(-1, 0, 0);
    int[][] due = {{1, 1, 7}, {1, 2, -1}, {2, 3, -1}, {2, 2, 8}, {3, 2, 7}, {4, 8, 8}, {7, 2, 7}, {50, 8, 7}, {2, 1, 7}};
    for (int[] d : due) Due.due("44: crashes(" + d[0] + ", " + d[1] + ")", x.crashes(d[0], d[1]), d[2]);
    int[][] others = {{0, 1}, {51, 1}, {1, 0}, {1, 9}, {-1, 1}, {Integer.MIN_VALUE, 1}};
    for (int[] o : others) Due.due("44: others", x.crashes(o[0], o[1]), -1);
    x.step();
    Due.due("44: one is gone since, more than the batch", x.crashes(1, 1), 6);
    x.crash();
    Due.due("44: resumed ahead", x.crashes(50, 2), 7);
    Due.due("44: nothing is done", x.job(5), 1);
    x = Due.told("batch 8;index x plain on a;" + HandTest.upwards(20));
    for (int i = 20; i < 30; i++) x.insert(i, i, i);
    x.begin(-1, 0, 0);
    Due.due("44: 7 of 15 are in vain, twice", x.crashes(15, 8), 45);
    x = Due.told("index x plain on a;index y plain on a;index z plain on a;index w plain on a;" + HandTest.upwards(20));
    for (int i = 20; i < 30; i++) x.insert(i, i, i);
    x.begin(-1, 0, 0);
    for (int n = 1; n <= 50; n++) for (int b = 1; b <= 8; b++) Due.due("44: crashes(" + n + ", " + b + ") of 4 times 30", x.crashes(n, b), byHand(n, b));
  }

  /** Four indexes with 30 each: all that counts is how many are gone for good. */
  private static int byHand(int n, int batch) {
    int steps = 0;
    int index = 0;
    int kept = 0;
    int since = 0;
    while (steps < 200) {
      steps++;
      if (index == 4) return steps;
      since++;
      if (since == batch || kept + since == 30) {
        kept += since;
        since = 0;
      }
      if (kept == 30) {
        index++;
        kept = 0;
      }
      if (steps % n == 0) since = 0;
    }
    return -1;
  }

  private static void sorting() {
    String rows = "row 5 0 0;row 3 0 0;row 8 0 0;row 1 0 0;row 9 0 0;row 2 0 0;";
    LeafSweep x = Due.told("index x plain on a;index y down on a;index p partial on a;index e plain on b;" + rows + "part a is 999;");
    int[][] up = {{1, 2, 2, 1}, {4, 2}, {4, 2}};
    int[] upMerged = {12, 6, 6};
    for (int m = 1; m <= 3; m++) look(x, 0, m, up[m - 1], upMerged[m - 1]);
    look(x, 0, 8, new int[] {6}, 0);
    look(x, 1, 1, new int[] {2, 2, 2}, 10);
    look(x, 1, 2, new int[] {3, 3}, 6);
    look(x, 2, 4, new int[0], 0);
    look(x, 3, 1, new int[] {6}, 0);
    int[][] others = {{4, 1}, {-1, 1}, {0, 0}, {0, 9}, {0, -1}};
    for (int[] o : others) {
      Due.due("45: others", x.runs(o[0], o[1]), -1);
      Due.due("46: others", x.run(o[0], o[1], 0), -1);
      Due.due("47: others", x.merged(o[0], o[1]), -1);
    }
    x = Due.told("index x plain on a;" + rows + "choose not a is 8;");
    look(x, 0, 1, new int[] {1, 1, 2, 1}, 10);
    x.begin(-1, 0, 0);
    x.step();
    look(x, 0, 1, new int[] {1, 2, 1}, 6);
    x = Due.told("page 2;batch 8;index x plain on a;row 9 0 0;row 1 0 0;row 8 0 0;row 2 0 0;row 7 0 0;row 3 0 0;row 6 0 0;row 4 0 0;row 5 0 0;row 5 0 0;");
    look(x, 0, 1, new int[] {1, 2, 2, 2, 3}, 23);
  }

  private static void look(LeafSweep x, int index, int memory, int[] runs, int merged) {
    String where = "(" + index + ", " + memory + ")";
    Due.due("45: runs" + where, x.runs(index, memory), runs.length);
    for (int k = 0; k < runs.length; k++) Due.due("46: run" + where + " " + k, x.run(index, memory, k), runs[k]);
    Due.due("46: none such", x.run(index, memory, runs.length), -1);
    Due.due("46: none such", x.run(index, memory, -1), -1);
    Due.due("47: merged" + where, x.merged(index, memory), merged);
  }
}
