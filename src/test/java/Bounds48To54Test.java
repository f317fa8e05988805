/** Promises 48 to 54, sentence by sentence: references in bulk and singly, what hinders, the WHERE, and the counts. */
public final class Bounds48To54Test extends Bounds {
  public static void main(String[] args) throws Exception { run(Bounds48To54Test.class); }

  private static final String ROWS = "row 5 0 0;row 10 0 0;row 20 0 0;row 40 0 0;point firm at 20;point firm at 10;point firm at 20;point loose at 5;point bound at 40;";

  // ---------------------------------------------------------------- promise 48

  @Says({"`int check(int what)`: CHECK, what 0: BULK, 1: SINGLY; NONE: others."})
  static void promise48_others() {
    LeafSweep x = told(ROWS);
    for (int w : new int[] {-1, 2, 3, LOW, HIGH}) is("what " + w, x.check(w), -1);
    is("BULK", x.check(0), 5);
    is("SINGLY", x.check(1), 12);
    is("BULK without a TABLE", new LeafSweep().check(0), 0);
    is("SINGLY without a TABLE", new LeafSweep().check(1), 0);
    is("others without a TABLE", new LeafSweep().check(2), -1);
  }

  /** A ROW for each number: those of firm stay, with a firm POINTER at each, the others go. */
  private static LeafSweep two(String firm, String going) {
    StringBuilder s = new StringBuilder("choose b is 0;");
    for (String n : going.split(" ")) if (!n.isEmpty()) s.append("row ").append(n).append(" 0 0;");
    for (String n : firm.split(" ")) if (!n.isEmpty()) s.append("row ").append(n).append(" 1 0;point firm at ").append(n).append(';');
    return told(s.toString());
  }

  @Says({"CHECK: the values at which firm POINTERS point, and those of a of the CHOSEN ROWS", "each upwards, equal ones as often as they are; as long as neither is at its end, the two foremost are compared: the less one's goes on; of equal ones that of the POINTERS: BULK: how many comparisons;"})
  static void promise48_bulk() {
    String[][] due = {{"", "", "0"}, {"5", "", "0"}, {"", "5", "0"}, {"5", "5", "1"}, {"5", "6", "1"}, {"6", "5", "1"}, {"5", "5 5 5", "1"}, {"5 5 5", "5", "3"}, {"5 5 5", "5 5", "3"}, {"6 6", "5 5 5", "3"}, {"5 7", "6", "2"},
        {"6", "5 7", "2"}, {"30 10", "20", "2"}, {"20", "30 10", "2"}, {"1 2 3", "4 5 6", "3"}, {"4 5 6", "1 2 3", "3"}, {"1 3 5", "2 4 6", "5"}, {"2 4 6", "1 3 5", "5"}, {"0 999", "999 0", "3"}, {"999 0", "0 999", "3"}};
    for (String[] d : due) is(d[0] + " and " + d[1], two(d[0], d[1]).check(0), Integer.parseInt(d[2]));
    LeafSweep x = told("choose b is 0;row 5 0 0;row 5 1 0;row 6 1 0;point loose at 6;point bound at 6;point firm at 5;");
    is("loose and bound ones are not looked at", x.check(0), 1);
    x.drop(2);
    is("GONE ones are not", x.check(0), 0);
  }

  @Says({"(without a JOB of those that BEGIN of all would choose),"})
  static void promise48_withAndWithoutAJob() {
    LeafSweep x = told("choose b is 0;row 1 0 0;row 2 0 0;row 3 1 0;row 4 1 0;point firm at 4;");
    is("without a JOB: 1 and 2", x.check(0), 2);
    is("SINGLY without an INDEX", x.check(1), 2);
    x.begin(-1, 0, 0);
    x.insert(3, 0, 0);
    is("CHOSEN ones: 1 and 2", x.check(0), 2);
    is("SINGLY", x.check(1), 2);
    x.step();
    is("over: 3", x.check(0), 1);
    is("SINGLY", x.check(1), 1);
    x.remove(4);
    is("none", x.check(0), 0);
    x = told("choose b is 0;row 1 0 0;row 2 0 0;point firm at 2;");
    is("even if BEGIN can't be", x.check(0), 2);
  }

  @Says({"SINGLY: HEIGHT + 1, of the first INDEX on a that is not partial, for each firm POINTER that points", "(if there is no such INDEX: the number of those ROWS for each)."})
  static void promise48_singly() {
    String page = "page 2;choose a from 5 to 20;";
    is("HEIGHT 1", told(page + "index x plain on a;" + ROWS).check(1), 6);
    is("down, too", told(page + "index x down on a;" + ROWS).check(1), 9);
    is("once, too", told(page + "index x once on a;" + ROWS).check(1), 6);
    is("the first one", told(page + "index x down on a;index y plain on a;" + ROWS).check(1), 9);
    is("the first one", told(page + "index y plain on a;index x down on a;" + ROWS).check(1), 6);
    is("partial ones are none", told(page + "index p partial on a;index q plain on b;index x down on a;" + ROWS).check(1), 9);
    is("no such one: 3 ROWS", told(page + "index p partial on a;index q plain on b;index r down on c;" + ROWS).check(1), 9);
    is("HEIGHT 0: one LEAF", told("page 4;index x plain on a;" + ROWS).check(1), 3);
    LeafSweep x = told("page 4;index x plain on a;" + ROWS);
    x.drop(1);
    is("each that points", x.check(1), 2);
    x = told("choose a is 5;row 5 0 0;row 6 0 0;point loose at 5;");
    is("no firm one", x.check(1), 0);
    x = told("page 4;index x plain on a;choose a is 99;" + ROWS);
    is("whatever goes", x.check(1), 3);
  }

  // ---------------------------------------------------------------- promise 49

  @Says({"`int hinders()`: HINDERS, as bits.", "HINDERS: POINTERS for which BEGIN of all would be refused (bits;"})
  static void promise49_hinders() {
    is("without a TABLE", new LeafSweep().hinders(), 0);
    is("all firm ones", told(ROWS).hinders(), 7);
    is("those of 20", told("choose a from 20 to 40;" + ROWS).hinders(), 5);
    is("those of 10", told("choose a from 5 to 19;" + ROWS).hinders(), 2);
    is("none that goes has any", told("choose a is 5 or a is 40;" + ROWS).hinders(), 0);
    is("one that stays has it, too", told("choose c is 0;" + ROWS + "row 20 1 1;").hinders(), 2);
    is("none goes", told("choose a is 6;" + ROWS).hinders(), 0);
    LeafSweep x = told(ROWS);
    x.drop(0);
    is("GONE", x.hinders(), 6);
    for (int p = 5; p < 12; p++) x.point(0, 5);
    is("the 12th", x.hinders(), 6 + 0xFE0);
    x = told("choose a is 5;row 5 0 0;row 5 1 0;point firm at 5;");
    is("both go", x.hinders(), 1);
  }

  @Says("while there is a JOB, as if there were none, of those VISIBLE now).")
  static void promise49_whileThereIsAJob() {
    LeafSweep x = begun("choose b is 0;row 5 0 0;row 6 1 0;row 7 0 0;row 7 1 0;point firm at 7;point firm at 6;", 2);
    is("none of those VISIBLE would go", x.hinders(), 0);
    x.change(1, 1, 0);
    is("6 would", x.hinders(), 2);
    x.change(3, 1, 0);
    is("7, too: the CHOSEN one does not count", x.hinders(), 3);
    x.insert(7, 1, 1);
    is("another 7 stays", x.hinders(), 2);
    x.crash();
    is("DOWN", x.hinders(), 2);
    x = begun("choose twin a;row 5 0 0;row 5 1 0;row 6 0 0;row 8 0 0;point firm at 8;", 2);
    x.insert(8, 0, 0);
    is("twins of those VISIBLE now", x.hinders(), 1);
    x.remove(3);
    is("none is a twin now", x.hinders(), 0);
  }

  // ---------------------------------------------------------------- promise 50

  @Says("`boolean fits(int row, int what)`: Whether the WHERE is so of a VISIBLE ROW, what 0: of choose, 1: of part; false: others.")
  static void promise50_others() {
    LeafSweep x = told("row 1 1 1;row 2 2 2;choose a is 1;");
    is("so", x.fits(0, 0), true);
    is("not so", x.fits(1, 0), false);
    is("so of part", x.fits(1, 1), true);
    for (int w : new int[] {-1, 2, 3, LOW, HIGH}) is("what " + w, x.fits(0, w), false);
    for (int r : new int[] {-1, 2, 29, 30, 31, 32, 33, LOW, HIGH}) for (int w = 0; w < 2; w++) is("row " + r, x.fits(r, w), false);
    x.remove(1);
    is("THERE no more", x.fits(1, 1), false);
    x.begin(-1, 0, 0);
    is("CHOSEN", x.fits(0, 0), false);
    is("CHOSEN", x.fits(0, 1), false);
    x.stop();
    is("VISIBLE again", x.fits(0, 0), true);
    is("without a TABLE", new LeafSweep().fits(0, 0), false);
  }

  /** For which of the rows it is so, as "0 2 5"; told of choose, and of part if it can stand there. */
  private static void so(String where, String rows, String due) {
    boolean both = !where.contains("twin") && !where.contains("pointed");
    LeafSweep x = told(rows + "choose " + where + ";" + (both ? "part " + where + ";" : ""));
    for (int w = 0; w < (both ? 2 : 1); w++) {
      StringBuilder s = new StringBuilder();
      for (int r = 0; r < x.count(3); r++) if (x.fits(r, w)) s.append(s.length() > 0 ? " " : "").append(r);
      is(where + (w == 0 ? " in choose" : " in part"), s.toString(), due);
    }
  }

  private static final String SPREAD = "row 0 5 9;row 1 5 8;row 2 4 2;row 500 0 500;row 998 999 998;row 999 0 999;";

  @Says({"COLUMN from N to N (the value of a ROW is in these bounds; 0 to 999);", "COLUMN is N (0 to 999);"})
  static void promise50_inTheseBounds() {
    so("a from 1 to 500", SPREAD, "1 2 3");
    so("a from 0 to 999", SPREAD, "0 1 2 3 4 5");
    so("a from 0 to 0", SPREAD, "0");
    so("a from 999 to 999", SPREAD, "5");
    so("a from 2 to 1", SPREAD, "");
    so("a from 999 to 0", SPREAD, "");
    so("a from 3 to 499", SPREAD, "");
    so("a from 2 to 499", SPREAD, "2");
    so("a from 3 to 500", SPREAD, "3");
    so("b from 5 to 999", SPREAD, "0 1 4");
    so("c from 0 to 9", SPREAD, "0 1 2");
    so("a is 0", SPREAD, "0");
    so("b is 0", SPREAD, "3 5");
    so("c is 999", SPREAD, "5");
    so("b is 5", SPREAD, "0 1");
    so("not b is 5", SPREAD, "2 3 4 5");
    so("not a from 1 to 998", SPREAD, "0 5");
  }

  @Says("COLUMN over COLUMN (the first one's value is more);")
  static void promise50_over() {
    so("a over b", SPREAD, "3 5");
    so("b over a", SPREAD, "0 1 2 4");
    so("a over c", SPREAD, "");
    so("c over a", SPREAD, "0 1");
    so("not c over a", SPREAD, "2 3 4 5");
    so("b over c", SPREAD, "2 4");
    so("a over a", SPREAD, "");
    so("not b over b", SPREAD, "0 1 2 3 4 5");
  }

  @Says("every N (the ROW's number is a multiple of 2 to 9);")
  static void promise50_every() {
    so("every 2", up(20), "0 2 4 6 8 10 12 14 16 18");
    so("every 3", up(20), "0 3 6 9 12 15 18");
    so("every 7", up(20), "0 7 14");
    so("every 9", up(20), "0 9 18");
    so("not every 2 and not every 3", up(20), "1 5 7 11 13 17 19");
    so("every 2", downwards(3), "0 2");
  }

  @Says("twin COLUMN (another VISIBLE ROW has its value);")
  static void promise50_twin() {
    so("twin a", SPREAD, "");
    so("twin b", SPREAD, "0 1 3 5");
    so("not twin b", SPREAD, "2 4");
    so("twin c", "row 1 2 3;row 3 1 2;row 2 3 1;row 0 0 2;", "1 3");
    so("twin a", "row 7 0 0;row 7 0 0;row 7 0 0;", "0 1 2");
    so("twin b", "row 7 7 8;", "");
    LeafSweep x = told("row 1 5 0;row 2 5 0;row 3 5 0;choose twin b and not a is 3;");
    is("two others", x.fits(0, 0), true);
    x.remove(1);
    is("one other", x.fits(0, 0), true);
    x.begin(-1, 0, 0);
    is("0 goes", x.job(2), 1);
    x.insert(4, 6, 0);
    is("a CHOSEN one is none", x.fits(2, 0), false);
    x.change(3, 1, 5);
    is("another one is", x.fits(3, 0), true);
    x.change(2, 1, 4);
    is("it is none more", x.fits(3, 0), false);
  }

  @Says("pointed (a POINTER points at its a).")
  static void promise50_pointed() {
    so("pointed", "row 7 8 9;row 8 7 7;row 7 0 0;row 9 0 0;point firm at 7;point loose at 9;", "0 2 3");
    so("not pointed", "row 7 8 9;row 8 7 7;row 7 0 0;row 9 0 0;point bound at 7;", "1 3");
    so("pointed", "row 7 7 7;", "");
    LeafSweep x = told("row 7 0 0;row 8 0 0;row 9 0 0;row 9 1 0;point firm at 7;point loose at 9;point bound at 8;choose pointed and not b is 1;");
    is("firm", x.fits(0, 0), true);
    is("loose", x.fits(2, 0), true);
    is("bound", x.fits(1, 0), true);
    x.drop(0);
    is("GONE", x.fits(0, 0), false);
    x.begin(-1, 0, 0);
    is("1 and 2", x.job(2), 6);
    x.insert(8, 0, 0);
    is("GONE by BEGIN", x.fits(4, 0), false);
    x.insert(9, 0, 0);
    is("it points still, another one having it", x.fits(5, 0), true);
    x = told("row 7 0 0;row 0 0 0;point loose at 7;choose pointed;");
    x.remove(0);
    is("nowhere is not 0", x.fits(1, 0), false);
  }

  @Says("WHERE: GROUP { or GROUP }: any of them; GROUP: LIMIT { and LIMIT }: all of them; LIMIT, or not and a LIMIT (it is not so):")
  static void promise50_groups() {
    so("a is 0 or a is 2", SPREAD, "0 2");
    so("a is 0 and b is 5", SPREAD, "0");
    so("a is 0 and b is 4", SPREAD, "");
    so("a is 0 and b is 4 or c is 2", SPREAD, "2");
    so("c is 2 or a is 0 and b is 4", SPREAD, "2");
    so("a is 0 or b is 4 and c is 3", SPREAD, "0");
    so("not a is 0 and not a is 1 and not a is 2", SPREAD, "3 4 5");
    so("not a is 0 or not a is 1", SPREAD, "0 1 2 3 4 5");
    so("not a is 0 and b is 5 or b is 999 and not c is 5", SPREAD, "1 4");
    so("a is 0 and b is 5 and c is 9 and every 2 and not a over b", SPREAD, "0");
    so("a is 0 or a is 1 or a is 2 or a is 500 or a is 998 or a is 7", SPREAD, "0 1 2 3 4");
    so("a is 7 or ".repeat(11) + "a is 2", SPREAD, "2");
    so("a from 0 to 5 and ".repeat(11) + "not a is 1", SPREAD, "0 2");
    so("a is 0 and not a is 0 or a is 1 and a is 1 or a is 2 and not a is 3", SPREAD, "1 2");
  }

  @Says("Without choose, without part: it is so.")
  static void promise50_withoutAWhere() {
    LeafSweep x = told(SPREAD);
    for (int r = 0; r < 6; r++) for (int w = 0; w < 2; w++) is("row " + r, x.fits(r, w), true);
    x = told(SPREAD + "choose a is 7;");
    is("part alone is so", x.fits(0, 1), true);
    is("choose is not", x.fits(0, 0), false);
    x = told(SPREAD + "part a is 7;");
    is("part is not", x.fits(0, 1), false);
    is("choose alone is so", x.fits(0, 0), true);
  }

  // ---------------------------------------------------------------- promise 51

  @Says({"`int needs(int pointer)`: NEEDS, as bits (0: it points nowhere, is GONE); NONE: others.", "NEEDS of a POINTER: VISIBLE ROWS that have its value (bits)."})
  static void promise51_needs() {
    LeafSweep x = told("choose b is 1;row 5 0 0;row 5 1 0;row 0 1 5;row 5 2 0;row 6 1 0;point firm at 5;point loose at 6;point bound at 6;point loose at 0;");
    for (int p : new int[] {-1, 4, 11, 12, 13, 32, LOW, HIGH}) is("POINTER " + p, x.needs(p), -1);
    int[] due = {11, 16, 16, 4};
    for (int p = 0; p < 4; p++) is("needs(" + p + ")", x.needs(p), due[p]);
    x.begin(-1, 0, 0);
    int[] then = {9, 0, 0, 0};
    for (int p = 0; p < 4; p++) is("VISIBLE ones, needs(" + p + ")", x.needs(p), then[p]);
    x.insert(5, 5, 5);
    is("one more", x.needs(0), 41);
    x.insert(6, 0, 0);
    is("nowhere", x.needs(1), 0);
    is("GONE", x.needs(2), 0);
    x.remove(0);
    is("one fewer", x.needs(0), 40);
    x.drop(0);
    is("GONE", x.needs(0), 0);
    is("without a TABLE", new LeafSweep().needs(0), -1);
  }

  // ---------------------------------------------------------------- promise 52

  @Says({"`boolean free(int row)`: FREE; false: others, it is not VISIBLE.", "FREE of a ROW: whether it could be REMOVED."})
  static void promise52_free() {
    LeafSweep x = told("choose b is 1;row 5 0 0;row 5 1 0;row 6 1 0;row 7 0 0;row 8 7 7;point firm at 5;point loose at 6;point firm at 7;point bound at 8;");
    boolean[] due = {true, true, true, false, true};
    for (int r = 0; r < 5; r++) is("free(" + r + ")", x.free(r), due[r]);
    for (int r : new int[] {-1, 5, 29, 30, 31, 32, 33, LOW, HIGH}) is("row " + r, x.free(r), false);
    is("nothing is done by the asking", x.count(4), 31);
    x.begin(-1, 0, 0);
    is("CHOSEN", x.free(1), false);
    is("no other VISIBLE one", x.free(0), false);
    x.insert(5, 5, 5);
    is("another one", x.free(0), true);
    x.remove(0);
    is("THERE no more", x.free(0), false);
    is("the last one of 5", x.free(5), false);
    x.drop(0);
    is("GONE", x.free(5), true);
    is("without a TABLE", new LeafSweep().free(0), false);
    x = begun("index p partial on a;row 1 0 0;row 2 0 0;row 3 1 0;choose a is 1;part b is 0;", 1);
    for (int i = 0; i < 20; i++) x.change(1, 0, 5 + i % 2);
    is("40 on the SIDE list", x.job(6), 40);
    is("one more can't be", x.free(1), false);
    is("one that lays none can", x.free(2), true);
    x.undo();
    is("38", x.free(1), true);
  }

  // ---------------------------------------------------------------- promise 53

  @Says({"`int would(int a, int b, int c)`: WOULD, as bits; NONE: others.", "WOULD: once INDEXES for which an INSERT of these would be refused"})
  static void promise53_would() {
    LeafSweep x = told("index k once on a;index l plain on a;index m once on c;index n once on a;choose a is 1;row 1 1 1;row 2 2 2;row 0 0 999;");
    for (int v : new int[] {-1, 1000, LOW, HIGH}) {
      is("a " + v, x.would(v, 1, 1), -1);
      is("b " + v, x.would(1, v, 1), -1);
      is("c " + v, x.would(1, 1, v), -1);
    }
    int[][] due = {{1, 5, 5, 9}, {5, 1, 5, 0}, {5, 5, 1, 4}, {1, 1, 1, 13}, {2, 1, 1, 13}, {0, 999, 999, 13}, {999, 0, 0, 0}, {999, 999, 999, 4}};
    for (int[] d : due) is("would(" + d[0] + ", " + d[1] + ", " + d[2] + ")", x.would(d[0], d[1], d[2]), d[3]);
    x.begin(-1, 0, 0);
    is("CHOSEN ones do not count", x.would(1, 1, 1), 0);
    is("VISIBLE ones do", x.would(2, 1, 1), 9);
    x.insert(1, 1, 1);
    is("one on the SIDE list does", x.would(1, 1, 1), 13);
    x.remove(1);
    is("one that is THERE no more does not", x.would(2, 2, 2), 0);
    is("without a TABLE", new LeafSweep().would(1, 1, 1), 0);
    is("others without a TABLE", new LeafSweep().would(1, 1, 1000), -1);
  }

  @Says("(bits; all INDEXES, of any KIND, if there have been 30 ROWS).")
  static void promise53_if30HaveBeen() {
    String[] indexes = {"", "index k plain on a;", "index l down on b;", "index m partial on c;", "index n once on a;"};
    StringBuilder head = new StringBuilder();
    for (int n = 0; n < 5; n++) {
      head.append(indexes[n]);
      LeafSweep x = told(head.toString());
      for (int i = 0; i < 29; i++) x.insert(i, i, i);
      is("29 have been", x.would(29, 29, 29), 0);
      x.insert(29, 29, 29);
      is("30 have been, " + n + " INDEXES", x.would(500, 500, 500), (1 << n) - 1);
      is("others", x.would(500, 500, 1000), -1);
      x.remove(0);
      is("fewer are THERE", x.would(500, 500, 500), (1 << n) - 1);
    }
  }

  // ---------------------------------------------------------------- promise 54

  @Says({"`int count(int what)`: What 0: page, 1: batch, 2: INDEXES, 3: ROWS that have come, 4: VISIBLE ones, as bits, 5: POINTERS that have come, 6: SPENT, 7: lines of the WORK, 8: what can be undone, 9: signs on the TAPE."})
  static void promise54_count() {
    LeafSweep x = told("page 3;batch 7;index x plain on a;index y plain on b;row 1 1 1;row 2 2 2;row 3 3 3;point firm at 1;point loose at 2;choose a is 2;");
    look(x, 3, 7, 2, 3, 7, 2, 0, 0, 0, 0);
    Due.work(x, "begin;step 1;step 2;");
    Due.feed(x, "row");
    look(x, 3, 7, 2, 3, 7, 2, 0, 3, 0, 3);
    x.insert(4, 4, 4);
    look(x, 3, 7, 2, 4, 15, 2, 4, 3, 1, 3);
    x.remove(2);
    look(x, 3, 7, 2, 4, 11, 2, 10, 3, 2, 3);
    x.point(2, 4);
    look(x, 3, 7, 2, 4, 11, 3, 10, 3, 3, 3);
    x.begin(-1, 0, 0);
    look(x, 3, 7, 2, 4, 9, 3, 13, 3, 4, 3);
    x.drop(2);
    look(x, 3, 7, 2, 4, 9, 3, 13, 3, 5, 3);
    x.crash();
    look(x, 3, 7, 2, 4, 9, 3, 13, 3, 0, 3);
    x = told("");
    for (int i = 0; i < 30; i++) x.insert(i, i, i);
    is("30 VISIBLE ones", x.count(4), 0x3FFFFFFF);
    is("30 have come", x.count(3), 30);
    is("16 can be undone", x.count(8), 16);
  }

  private static void look(LeafSweep x, int... due) { for (int w = 0; w < 10; w++) is("count(" + w + ")", x.count(w), due[w]); }

  @Says("NONE for another what.")
  static void promise54_others() {
    LeafSweep x = told("row 1 1 1;");
    for (int w : new int[] {-1, -2, 10, 11, 32, LOW, HIGH}) is("what " + w, x.count(w), -1);
    for (int w : new int[] {-1, 10, LOW, HIGH}) is("without a TABLE, what " + w, new LeafSweep().count(w), -1);
  }
}
