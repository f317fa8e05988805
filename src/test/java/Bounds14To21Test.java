/** Promises 14 to 21, sentence by sentence: a deletion begun, gone on with, stopped, crashed, resumed; packed, undone, judged. */
public final class Bounds14To21Test extends Bounds {
  public static void main(String[] args) throws Exception { run(Bounds14To21Test.class); }

  /** x is 0 1|2, rows 0 and 1 go. */
  private static final String TWO = "page 2;batch 2;index x plain on a;row 1 0 0;row 2 0 0;row 3 0 0;point loose at 1;point bound at 1;choose a from 1 to 2;";
  /** x on a, y on b; row 0 goes (a is 1), row 1 is there to be changed. */
  private static final String SIDED = "index x plain on a;index y plain on b;row 1 1 1;row 2 2 2;choose a is 1;";
  /** x is 0 1|2 3|4 5, all go. */
  private static final String SIX = "page 2;batch 3;index x plain on a;" + up(6);

  /** Nine LEAVES 1 2|3 4| .. |15 16|17 30; row 0 has 30, row n has n. */
  static String nine(int batch, String choose) {
    StringBuilder s = new StringBuilder("page 3;batch " + batch + ";index x plain on a;row 30 0 0;");
    for (int i = 1; i <= 17; i++) s.append("row ").append(i).append(" 0 0;");
    return s + "choose " + choose + ";";
  }

  private static void refused(String what, LeafSweep x, int answer, String ahead, int undos) {
    is(what, answer, -1);
    is(what + ": all as ahead", sight(x), ahead);
    is(what + ": nothing to undo", x.count(8), undos);
  }

  // ---------------------------------------------------------------- promise 14

  @Says("`int begin(int index, int low, int high)`: BEGIN of an INDEX")
  static void promise14_others() {
    LeafSweep x = told("index x plain on a;index y plain on b;" + up(3));
    String ahead = sight(x);
    for (int i : new int[] {-2, 2, 3, 4, 32, LOW, HIGH}) refused("INDEX " + i, x, x.begin(i, 0, 999), ahead, 0);
    is("the last one", x.begin(1, 0, 0), 3);
    is("without a TABLE", new LeafSweep().begin(0, 0, 999), -1);
  }

  @Says("(NONE: of all; low, high are not looked at): how many are CHOSEN;")
  static void promise14_ofAll() {
    for (int[] bounds : new int[][] {{0, 0}, {5, 3}, {HIGH, LOW}, {-1, -1}, {1000, 1000}}) {
      LeafSweep x = told("index x plain on a;" + up(3));
      is("of all, " + bounds[0] + " to " + bounds[1], x.begin(LeafSweep.NONE, bounds[0], bounds[1]), 3);
      is("CHOSEN", x.job(2), 7);
    }
    is("without an INDEX", told(up(3)).begin(-1, 0, 0), 3);
  }

  @Says({"NONE: others, refused, a JOB.", "BEGIN (no JOB):"})
  static void promise14_aJob() {
    LeafSweep x = begun(TWO, 2);
    String ahead = sight(x);
    refused("a JOB", x, x.begin(-1, 0, 0), ahead, 1);
    refused("a JOB, another INDEX's rows", x, x.begin(0, 3, 3), ahead, 1);
    x.crash();
    is("one that is DOWN", x.begin(0, 3, 3), -1);
    x.resume();
    steps(x, 2);
    is("behind all", x.job(0), 4);
    is("behind all, too", x.begin(0, 3, 3), -1);
    x.step();
    is("over; choose is not so of row 2", x.begin(0, 3, 3), -1);
    x.change(2, 0, 2);
    is("now it is", x.begin(0, 2, 2), 1);
  }

  @Says("CHOSEN are the VISIBLE ROWS of all, or with an ENTRY in an INDEX and a value in its COLUMN from a low to a high one,")
  static void promise14_fromALowToAHighOne() {
    int[][] due = {{0, 999, 4}, {10, 20, 3}, {11, 20, 2}, {10, 19, 1}, {11, 19, -1}, {20, 20, 2}, {20, 10, -1}, {LOW, HIGH, 4}, {HIGH, LOW, -1}, {LOW, 9, -1}, {31, HIGH, -1}, {30, HIGH, 1}, {LOW, 10, 1}, {-5, 1005, 4}};
    for (String kind : new String[] {"plain", "down"}) {
      for (int[] d : due) {
        LeafSweep x = told("index y plain on b;index x " + kind + " on a;row 10 0 0;row 20 0 0;row 30 0 0;row 20 1 0;");
        is(kind + " from " + d[0] + " to " + d[1], x.begin(1, d[0], d[1]), d[2]);
      }
    }
    LeafSweep x = told("index p partial on a;row 1 0 0;row 1 1 0;row 1 0 0;part b is 0;");
    is("with an ENTRY in it", x.begin(0, 1, 1), 2);
    is("CHOSEN", x.job(2), 5);
    x = told("index x plain on a;row 1 0 0;row 1 1 0;row 1 0 0;");
    x.remove(0);
    is("VISIBLE ones", x.begin(0, 0, 999), 2);
    is("CHOSEN", x.job(2), 6);
  }

  @Says("of which the WHERE of choose is so.")
  static void promise14_ofWhichChooseIsSo() {
    LeafSweep x = told("index x plain on a;row 1 5 0;row 2 6 0;row 3 5 0;choose b is 5;");
    is("and a value in the bounds", x.begin(0, 2, 3), 1);
    is("CHOSEN", x.job(2), 4);
    x = told("row 1 5 0;row 2 5 0;row 3 6 0;point loose at 3;point loose at 1;choose twin b or pointed;");
    is("twins are so of each other ahead of it, pointed ones, too", x.begin(-1, 0, 0), 3);
    x = told("row 1 5 0;row 2 5 0;row 3 6 0;choose not twin b;");
    x.remove(0);
    is("a removed one is no twin", x.begin(-1, 0, 0), 2);
  }

  @Says("Refused, if there are none,")
  static void promise14_refusedIfThereAreNone() {
    LeafSweep x = told("index x plain on a;row 1 1 1;choose a is 2;");
    String ahead = sight(x);
    refused("choose is so of none", x, x.begin(-1, 0, 0), ahead, 0);
    refused("none in the bounds", x, x.begin(0, 5, 6), ahead, 0);
    x = told("row 1 1 1;");
    x.remove(0);
    is("none is VISIBLE", x.begin(-1, 0, 0), -1);
    is("no ROW", told("index x plain on a;").begin(-1, 0, 0), -1);
    is("no ROW, of an INDEX", told("index x plain on a;").begin(0, LOW, HIGH), -1);
    is("no ENTRY", told("index p partial on a;row 1 1 1;part a is 2;").begin(0, LOW, HIGH), -1);
  }

  @Says("or if a firm POINTER points at a value of a CHOSEN one's a, and no VISIBLE ROW that is not CHOSEN has that.")
  static void promise14_refusedByAFirmPointer() {
    String rows = "row 7 0 0;row 7 1 0;row 8 0 7;row 9 1 7;";
    LeafSweep x = told(rows + "point loose at 9;point firm at 7;point bound at 8;");
    String ahead = sight(x);
    refused("all", x, x.begin(-1, 0, 0), ahead, 0);
    x.drop(1);
    is("it is GONE", x.begin(-1, 0, 0), 4);
    is("one that stays has it", begun("choose b is 0;" + rows + "point firm at 7;", 2).job(2), 5);
    is("none goes that has it", begun("choose a from 8 to 9;" + rows + "point firm at 7;", 2).job(2), 12);
    is("a c of one that goes is no a", begun("choose c is 7;" + rows + "point firm at 7;", 2).job(2), 12);
    x = told("choose b is 0;" + rows + "point firm at 7;");
    x.remove(1);
    is("the one that stayed is THERE no more", x.begin(-1, 0, 0), -1);
    x = told("index x plain on a;" + rows + "point firm at 7;");
    is("of an INDEX", x.begin(0, 7, 7), -1);
    is("of an INDEX, others", x.begin(0, 8, 9), 2);
    is("firm ones stay", x.pointer(0, 1), 7);
  }

  @Says("Else the JOB is ON; loose POINTERS at values that no VISIBLE ROW has then point nowhere, bound ones are GONE;")
  static void promise14_looseAndBoundPointers() {
    LeafSweep x = told("choose b is 0;row 7 0 0;row 8 0 0;row 8 1 0;row 9 0 0;row 9 0 0;point loose at 7;point bound at 7;point loose at 8;point bound at 8;point loose at 9;point bound at 9;");
    is("begin", x.begin(-1, 0, 0), 4);
    int[] due = {-1, -2, 8, 8, -1, -2};
    for (int p = 0; p < 6; p++) is("POINTER " + p, x.pointer(p, 1), due[p]);
    is("ON", x.job(5), 0);
    is("nowhere is no value that a ROW could come to have", x.insert(7, 7, 7), 5);
    is("it stays", x.pointer(0, 1), -1);
  }

  @Says("Else the JOB is ON; loose POINTERS at values that no VISIBLE ROW has then point nowhere, bound ones are GONE;")
  static void promise14_twelvePointersAtValue0() {
    LeafSweep x = told("choose b is 0;row 0 0 0;row 999 1 0;" + "point loose at 0;point bound at 0;".repeat(4));
    for (int p = 8; p < 12; p++) x.point(p < 11 ? 1 : 0, p < 11 ? 0 : 999);
    is("none hinders", x.hinders(), 0);
    is("begin", x.begin(-1, 0, 0), 1);
    for (int p = 0; p < 11; p++) is("POINTER " + p, x.pointer(p, 1), p < 8 && p % 2 == 1 ? -2 : -1);
    is("firm", x.pointer(11, 1), 999);
    is("stop", x.stop(), true);
    for (int p = 0; p < 11; p++) is("as ahead, POINTER " + p, x.pointer(p, 1), 0);
    is("firm", x.pointer(11, 1), 999);
  }

  @Says({"it COMES to the first INDEX.", "COME to an INDEX (the first one, the next one): while it has none LEFT it is the next one.", "If there is one, the JOB is AT it, its WAY is what it is now, and what that costs is SPENT; this is a STAND to go back to."})
  static void promise14_comesToTheFirstIndex() {
    LeafSweep x = begun(TWO, 2);
    is("AT", x.job(0), 0);
    is("PASS: HEIGHT 1, one LEAF, one LEAF", x.count(6), 3);
    is("WAY", x.job(1), 0);
    x = begun("index p partial on a;index q partial on b;index x plain on a;row 1 1 1;row 2 2 2;part a is 2;choose a is 1;", 1);
    is("none LEFT in two", x.job(0), 2);
    is("that one's costs", x.count(6), 2);
    x = begun("index p partial on a;index q partial on b;row 1 1 1;row 2 2 2;part a is 2;choose a is 1;", 1);
    is("none LEFT in any", x.job(0), 4);
    is("no WAY", x.job(1), -1);
    is("nothing SPENT", x.count(6), 0);
    x = begun("row 1 1 1;", 1);
    is("no INDEX", x.job(0), 4);
    x = begun(nine(1, "a is 30 or a from 1 to 2"), 3);
    is("PROBING is less", x.job(1), 1);
    is("it is SPENT", x.count(6), 12);
  }

  // ---------------------------------------------------------------- promise 15

  @Says({"`int step()`: STEP: the ROW of which an ENTRY went, -2: the JOB is over; NONE: it can't be.", "STEP (ON, not DOWN):"})
  static void promise15_whatItAnswers() {
    LeafSweep x = told(TWO);
    String ahead = sight(x);
    refused("no JOB", x, x.step(), ahead, 0);
    x.begin(-1, 0, 0);
    x.crash();
    ahead = sight(x);
    refused("DOWN", x, x.step(), ahead, 0);
    x.resume();
    is("the rows, then over, then none", stepped(x), "0 1 -2");
    is("row 0's number is no end", x.count(4), 4);
    ahead = sight(x);
    refused("over", x, x.step(), ahead, 4);
    is("without a TABLE", new LeafSweep().step(), -1);
  }

  @Says({"AT an INDEX the next one LEFT is TAKEN (at no cost);", "if batch or more are gone SINCE, or none is LEFT, there is a RECORD: it costs 1, none is gone SINCE,"})
  static void promise15_records() {
    int[][] since = {{1, 0, 0, 0, 0, 0, 0, 0, 0}, {2, 1, 0, 1, 0, 1, 0, 1, 0}, {3, 1, 2, 0, 1, 2, 0, 1, 0}, {7, 1, 2, 3, 4, 5, 6, 0, 0}, {8, 1, 2, 3, 4, 5, 6, 7, 0}};
    for (int[] s : since) {
      LeafSweep x = begun("page 8;batch " + s[0] + ";index x plain on a;" + up(8), 8);
      int spent = 2;
      int records = 0;
      is("PASS of one LEAF", x.count(6), spent);
      for (int i = 1; i <= 8; i++) {
        is("the row", x.step(), i - 1);
        if (s[i] == 0) { spent++; records++; }
        is("batch " + s[0] + ", gone SINCE behind " + i, x.job(3), s[i]);
        is("batch " + s[0] + ", SPENT behind " + i, x.count(6), spent);
        is("batch " + s[0] + ", RECORDS behind " + i, x.job(4), records);
      }
    }
    LeafSweep x = begun("page 8;batch 8;index x plain on a;" + up(9), 9);
    steps(x, 8);
    is("8 of 9", x.job(4), 1);
    steps(x, 1);
    is("the last one", x.job(4), 2);
    is("PASS 1 and 2 and 2, RECORDS", x.count(6), 7);
  }

  @Says({"In PASS those LEFT go by ORDER, in PROBING by numbers.", "The WAY is PASS, if that costs no more, else PROBING."})
  static void promise15_byOrderOrByNumbers() {
    is("PASS, upwards", stepped(begun("index x plain on a;row 3 0 0;row 1 0 0;row 2 0 0;row 1 1 0;", 4)), "1 3 2 0 -2");
    is("PASS, downwards", stepped(begun("index x down on a;row 3 0 0;row 1 0 0;row 2 0 0;row 1 1 0;", 4)), "0 2 1 3 -2");
    is("PROBING", stepped(begun(nine(1, "a is 30 or a from 1 to 2"), 3)), "0 1 2 -2");
    LeafSweep x = begun(nine(1, "a is 30"), 1);
    is("one LEFT costs as much by both: PASS", x.job(1), 0);
    is("4", x.count(6), 4);
    x = begun(nine(1, "a is 30 or a from 1 to 2 or a is 9"), 4);
    is("four LEFT in three LEAVES: PASS 14, PROBING 16", x.job(1), 0);
    is("14", x.count(6), 14);
    is("by ORDER", stepped(x), "1 2 9 0 -2");
  }

  @Says({"If none is LEFT then, the SIDE list is carried out, in its order (each costs what a PUT or a TAKE costs), it is empty,"})
  static void promise15_theSideListIsCarriedOut() {
    LeafSweep x = begun("page 2;batch 2;index x plain on a;row 1 0 0;row 2 0 0;row 3 0 0;row 4 0 0;choose a is 1;", 1);
    is("PASS 3", x.count(6), 3);
    x.change(1, 0, 9);
    x.insert(5, 0, 0);
    x.remove(3);
    is("four aside", x.count(6), 7);
    is("x as ahead", leaves(x, 0), "0 1|2 3");
    is("step", x.step(), 0);
    is("TAKEN 1, PUT 1, PUT 4, TAKEN 3", leaves(x, 0), "2|4|1");
    is("RECORD 1; at HEIGHT 1, 0, 1, 2: 3, 2, 3, 4", x.count(6), 20);
    is("it is empty", x.job(6), 0);
    is("nothing stands on it", x.side(0), LOW);
    x = begun("page 2;batch 1;index x plain on a;row 1 0 0;row 2 0 0;row 3 0 0;choose a from 1 to 2;", 2);
    x.insert(4, 0, 0);
    x.step();
    is("a RECORD, but one is LEFT", x.job(4), 1);
    is("not carried out", x.job(6), 1);
    is("x", leaves(x, 0), "1|2");
    x.step();
    is("none is LEFT", x.job(6), 0);
    is("x", leaves(x, 0), "2 3");
  }

  @Says("in its order (each costs what a PUT or a TAKE costs), it is empty,")
  static void promise15_row0AndValue0OnTheSideList() {
    LeafSweep x = begun("index x plain on a;row 7 0 0;row 2 0 0;row 0 0 0;choose a is 2;", 1);
    x.change(0, 0, 0);
    is("PUT 0, row 0", x.side(1), 0);
    x.remove(2);
    x.change(0, 0, 3);
    is("TAKEN 0, row 0", x.side(3), -40000);
    x.change(0, 0, 0);
    is("step", x.step(), 1);
    is("row 0 at 0", leaves(x, 0), "0");
    is("none MISSING", x.missing(0), 0);
    is("none STALE", x.stale(0), 0);
    is("PASS 2, aside 7, RECORD 1, 7 times 2", x.count(6), 24);
    x = begun("index x plain on a;row 0 0 0;row 2 0 0;choose a is 2;", 1);
    for (int r = 2; r < 30; r++) x.insert(999, 0, 0);
    x.step();
    is("row 29 at 999", x.leaf(0, x.index(0, 3) - 1, x.index(0, 2) > 0 ? lastOf(x) : 0), 29);
    is("29 ENTRIES", x.index(0, 2), 29);
  }

  private static int lastOf(LeafSweep x) {
    int i = 0;
    while (x.leaf(0, x.index(0, 3) - 1, i + 1) != -1) i++;
    return i;
  }

  @Says("and the JOB COMES to the next INDEX.")
  static void promise15_comesToTheNext() {
    LeafSweep x = begun("page 2;batch 2;index k plain on a;index p partial on a;index q partial on b;index m down on b;row 1 1 0;row 2 2 0;row 3 3 0;choose a from 1 to 2;part a is 3;", 2);
    is("AT k", x.job(0), 0);
    is("PASS 3", x.count(6), 3);
    is("step", x.step(), 0);
    is("step", x.step(), 1);
    is("none LEFT in p and q: AT m", x.job(0), 3);
    is("RECORD 1, PASS 1 and 2 and 2", x.count(6), 9);
    is("none gone SINCE", x.job(3), 0);
    is("step", x.step(), 1);
    is("step", x.step(), 0);
    is("behind all", x.job(0), 4);
    is("RECORD 1", x.count(6), 10);
    is("over", x.step(), -2);
    is("at no cost", x.count(6), 10);
  }

  @Says("Behind all INDEXES: the CHOSEN ROWS are THERE no more; the JOB is over.")
  static void promise15_behindAllIndexes() {
    LeafSweep x = begun(TWO, 2);
    steps(x, 2);
    is("behind all", x.job(0), 4);
    is("they are THERE still", x.row(0, 3) + x.row(1, 3), 2);
    is("and CHOSEN", x.job(2), 3);
    is("over", x.step(), -2);
    is("THERE no more", x.row(0, 3) + x.row(1, 3), 0);
    is("the other one is", x.count(4), 4);
    for (int w = 0; w < 7; w++) is("no JOB", x.job(w), -1);
    is("loose ones stay nowhere", x.pointer(0, 1), -1);
    is("bound ones stay GONE", x.pointer(1, 1), -2);
    is("another one can begin", x.insert(1, 1, 1) == 3 ? x.begin(-1, 0, 0) : 0, 1);
    is("its RECORDS are its own", x.job(4), 0);
    x = begun("row 1 1 1;row 2 2 2;choose a is 2;", 1);
    is("at once without an INDEX", x.step(), -2);
    is("VISIBLE", x.count(4), 1);
  }

  // ---------------------------------------------------------------- promise 16

  @Says({"`boolean stop()`: STOP: true; false: it can't be, refused.", "STOP (ON, not DOWN, no RECORD, none gone SINCE):"})
  static void promise16_whenItCanBe() {
    LeafSweep x = told(TWO);
    is("no JOB", x.stop(), false);
    x.begin(-1, 0, 0);
    x.crash();
    is("DOWN", x.stop(), false);
    x.resume();
    is("RESUMED, nothing gone", x.stop(), true);
    is("once more", x.stop(), false);
    x.begin(-1, 0, 0);
    x.step();
    String ahead = sight(x);
    is("one gone SINCE", x.stop(), false);
    is("all as ahead", sight(x), ahead);
    is("nothing to undo", x.count(8), 4);
    x.crash();
    x.resume();
    is("none gone SINCE by a CRASH", x.stop(), true);
    is("x as at first", leaves(x, 0), "0 1|2");
    x = begun(TWO.replace("batch 2", "batch 1"), 2);
    x.step();
    is("none gone SINCE, but a RECORD", x.job(3), 0);
    is("a RECORD", x.stop(), false);
    x.undo();
    is("undone", x.stop(), true);
    x = begun("row 1 1 1;", 1);
    is("behind all, no RECORD", x.stop(), true);
    x = begun(TWO, 2);
    steps(x, 2);
    is("behind all, a RECORD", x.stop(), false);
    is("without a TABLE", new LeafSweep().stop(), false);
  }

  @Says("refused, if by it a once INDEX would have a value in two VISIBLE ROWS.")
  static void promise16_refusedByOnce() {
    for (int c = 0; c < 3; c++) {
      LeafSweep x = begun("index p plain on a;index o once on " + "abc".charAt(c) + ";row 1 4 7;row 2 5 8;row 3 6 9;choose a from 1 to 2;", 2);
      x.insert(c == 0 ? 2 : 50, c == 1 ? 5 : 50, c == 2 ? 8 : 50);
      String ahead = sight(x);
      is("a new one has it", x.stop(), false);
      is("all as ahead", sight(x), ahead);
      x.change(3, c, 51);
      is("it has another one", x.stop(), true);
      is("all are VISIBLE", x.count(4), 15);
    }
    LeafSweep y = begun("index p plain on a;row 1 1 1;row 2 2 2;choose a is 1;", 1);
    y.insert(1, 1, 1);
    is("no once INDEX", y.stop(), true);
    y = begun("index o once on a;row 1 1 1;row 2 2 2;choose a is 1;", 1);
    y.insert(1, 1, 1);
    y.remove(2);
    is("the new one is THERE no more", y.stop(), true);
  }

  @Says("refused, if by it a once INDEX would have a value in two VISIBLE ROWS.")
  static void promise16_theFirstRowAndTheFirstIndex() {
    String[] others = {"", "index k plain on a;", "index k plain on a;index l plain on a;", "index k plain on a;index l plain on a;index m once on c;"};
    for (String head : others) {
      for (String tail : new String[] {"", "index z plain on c;"}) {
        if (head.contains("m once") && !tail.isEmpty()) continue;
        LeafSweep x = begun(head + "index o once on b;" + tail + "row 1 0 1;row 2 5 2;row 3 6 3;choose a from 1 to 2;", 2);
        x.insert(9, 0, 9);
        is("row 0's, of " + head, x.stop(), false);
        x.change(3, 1, 5);
        is("row 1's, of " + head, x.stop(), false);
        x.change(3, 1, 7);
        is("none's", x.stop(), true);
      }
    }
  }

  @Says("Else the SIDE list is carried out; the JOB is over, nobody is CHOSEN;")
  static void promise16_behindAllOfFourIndexes() {
    LeafSweep x = begun("index k partial on a;index l partial on b;index m partial on c;index n partial on a;row 1 1 1;part a is 2;", 1);
    is("behind all", x.job(0), 4);
    is("stop", x.stop(), true);
    is("VISIBLE", x.count(4), 1);
    is("nothing SPENT", x.count(6), 0);
  }

  @Says("Else the SIDE list is carried out; the JOB is over, nobody is CHOSEN;")
  static void promise16_theSideListIsCarriedOut() {
    LeafSweep x = begun(SIDED, 1);
    x.insert(7, 8, 9);
    x.change(1, 0, 9);
    is("PASS 2, aside 3, y 2", x.count(6), 7);
    is("stop", x.stop(), true);
    is("x", leaves(x, 0), "0 2 1");
    is("2 each", x.count(6), 13);
    for (int w = 0; w < 7; w++) is("no JOB", x.job(w), -1);
    is("nothing on the SIDE list", x.side(0), LOW);
    is("nobody is CHOSEN", x.row(0, 4), 0);
    is("all are VISIBLE", x.count(4), 7);
    is("none MISSING", x.missing(0), 0);
    is("none STALE", x.stale(0), 0);
  }

  @Says("POINTERS that BEGIN changed and that are not DROPPED since point as ahead of it.")
  static void promise16_pointersAsAhead() {
    String table = "choose b is 0;row 7 0 0;row 8 0 0;row 9 1 0;row 6 1 0;point loose at 7;point bound at 7;point loose at 8;point bound at 8;point firm at 9;point loose at 9;";
    LeafSweep x = begun(table, 2);
    is("nowhere", x.pointer(0, 1), -1);
    is("GONE", x.pointer(1, 1), -2);
    x.drop(2);
    is("GONE by BEGIN, no drop", x.drop(3), false);
    x.drop(5);
    is("one told since", x.point(1, 6), 6);
    is("stop", x.stop(), true);
    int[] due = {7, 7, -2, 8, 9, -2, 6};
    for (int p = 0; p < 7; p++) is("POINTER " + p, x.pointer(p, 1), due[p]);
    is("begin again", x.begin(-1, 0, 0), 2);
    is("stop", x.stop(), true);
    for (int p = 0; p < 7; p++) is("once more POINTER " + p, x.pointer(p, 1), due[p]);
    x = begun(table, 2);
    x.drop(0);
    is("undo of drop", x.undo(), true);
    is("nowhere again", x.pointer(0, 1), -1);
    is("stop", x.stop(), true);
    int[] all = {7, 7, 8, 8, 9, 9};
    for (int p = 0; p < 6; p++) is("not DROPPED, POINTER " + p, x.pointer(p, 1), all[p]);
    x = begun(table, 2);
    x.step();
    is("over", x.count(4), 12);
    x.insert(7, 0, 0);
    is("another JOB", x.begin(-1, 0, 0), 1);
    is("stop", x.stop(), true);
    is("what the JOB ahead changed stays", x.pointer(0, 1), -1);
    is("GONE for good", x.pointer(1, 1), -2);
  }

  // ---------------------------------------------------------------- promise 17

  @Says({"`int crash()`: CRASH: how many ENTRIES were gone SINCE; NONE: it can't be.", "CRASH (ON, not DOWN):"})
  static void promise17_howManyWereGone() {
    LeafSweep x = told(SIX);
    is("no JOB", x.crash(), -1);
    x.insert(9, 9, 9);
    is("a CRASH that can't be takes no undo", x.crash() == -1 ? x.count(8) : -5, 1);
    x.begin(-1, 0, 0);
    is("none", x.crash(), 0);
    is("DOWN", x.crash(), -1);
    x.resume();
    x.step();
    is("one", x.crash(), 1);
    x.resume();
    steps(x, 2);
    is("two", x.crash(), 2);
    x.resume();
    steps(x, 3);
    is("none behind a RECORD", x.crash(), 0);
    x.resume();
    steps(x, 4);
    is("behind all", x.job(0), 4);
    is("none behind all", x.crash(), 0);
    is("DOWN behind all", x.job(5), 1);
    is("DOWN", x.crash(), -1);
    is("without a TABLE", new LeafSweep().crash(), -1);
  }

  @Says({"the INDEX that it is AT is, with its LEAVES, as at the last STAND to go back to; none is gone SINCE; it is DOWN;", "none is gone SINCE, and this is a STAND to go back to."})
  static void promise17_asAtTheLastStand() {
    LeafSweep x = begun(SIX, 6);
    is("PASS 2 and 3 and 3", x.count(6), 8);
    steps(x, 2);
    is("a LEAF is gone", leaves(x, 0), "2 3|4 5");
    x.crash();
    is("as when the JOB came", leaves(x, 0), "0 1|2 3|4 5");
    is("none gone SINCE", x.job(3), 0);
    is("DOWN", x.job(5), 1);
    is("no cost", x.count(6), 8);
    x.resume();
    steps(x, 4);
    is("one RECORD, one more gone", leaves(x, 0), "4 5");
    x.crash();
    is("as at the RECORD", leaves(x, 0), "3|4 5");
    is("the RECORD stays", x.job(4), 1);
    x.resume();
    steps(x, 3);
    is("how many were gone at the RECORDS", x.record(0, 1) * 10 + x.record(1, 1), 36);
    x = begun("page 2;batch 8;index x plain on a;index y down on a;" + up(3), 3);
    steps(x, 3);
    is("AT y", x.job(0), 1);
    is("y", leaves(x, 1), "2 1|0");
    steps(x, 2);
    x.crash();
    is("y as when the JOB came to it", leaves(x, 1), "2 1|0");
    is("x stays", leaves(x, 0), "");
    x = begun("page 2;batch 8;index x plain on a;index y plain on b;" + up(3) + "row 9 9 9;choose a from 0 to 2;", 3);
    x.step();
    x.insert(5, 5, 5);
    x.change(3, 0, 8);
    x.crash();
    is("x", leaves(x, 0), "0 1|2 3");
    is("the SIDE list stays", x.job(6), 3);
    is("y stays", leaves(x, 1), "0 1|2 4|3");
    is("y has it", x.row(4, 5), 2);
    is("what was changed stays", x.row(3, 0), 8);
  }

  @Says("nothing can be undone.")
  static void promise17_nothingCanBeUndone() {
    LeafSweep x = begun(SIX, 6);
    x.step();
    is("two", x.count(8), 2);
    x.crash();
    is("nothing", x.count(8), 0);
    is("undo", x.undo(), false);
    x.insert(9, 9, 9);
    is("what is done behind it can", x.undo(), true);
    is("no more", x.undo(), false);
    is("DOWN still", x.job(5), 1);
  }

  // ---------------------------------------------------------------- promise 18

  @Says({"`int resume()`: RESUME: how many are LEFT where the JOB is AT (0: behind all); NONE: it can't be.", "RESUME (DOWN): it is DOWN no more;"})
  static void promise18_howManyAreLeft() {
    LeafSweep x = told(SIX);
    String ahead = sight(x);
    refused("no JOB", x, x.resume(), ahead, 0);
    x.begin(-1, 0, 0);
    ahead = sight(x);
    refused("not DOWN", x, x.resume(), ahead, 1);
    steps(x, 2);
    x.crash();
    is("all six", x.resume(), 6);
    is("DOWN no more", x.job(5), 0);
    is("once more", x.resume(), -1);
    steps(x, 3);
    x.crash();
    is("three", x.resume(), 3);
    steps(x, 3);
    x.crash();
    is("behind all", x.resume(), 0);
    is("step", x.step(), -2);
    x = begun("index x plain on a;index y plain on b;" + up(3), 3);
    steps(x, 3);
    x.crash();
    is("of y", x.resume(), 3);
    is("without a TABLE", new LeafSweep().resume(), -1);
  }

  @Says("(0: behind all);")
  static void promise18_behindAllOfFourIndexes() {
    LeafSweep x = begun("index k plain on a;index l down on b;index m plain on c;index n partial on a;row 1 1 1;row 2 2 2;choose a is 1;", 1);
    steps(x, 3);
    x.crash();
    is("AT the fourth", x.resume(), 1);
    x.step();
    int spent = x.count(6);
    x.crash();
    is("behind all", x.resume(), 0);
    is("at no cost", x.count(6), spent);
  }

  @Says("AT an INDEX what the WAY (as it was) costs for those LEFT is SPENT.")
  static void promise18_theWayAsItWas() {
    LeafSweep x = begun(nine(1, "a is 30 or a from 1 to 2"), 3);
    is("PROBING 3 * 4", x.count(6), 12);
    is("by numbers", x.step(), 0);
    is("RECORD", x.count(6), 13);
    is("PASS would be the WAY now", x.ways(), 1);
    x.crash();
    is("two", x.resume(), 2);
    is("PROBING still: 2 * 4", x.count(6), 21);
    is("the WAY", x.job(1), 1);
    x = begun(nine(5, "a is 30 or a from 1 to 6"), 7);
    is("PASS 2 and 9 and 4", x.count(6), 15);
    steps(x, 5);
    is("RECORD", x.count(6), 16);
    is("PROBING would be the WAY now", x.ways(), 0);
    x.crash();
    is("two", x.resume(), 2);
    is("PASS still: 2 and 7 and 2", x.count(6), 27);
    is("the WAY", x.job(1), 0);
    x = begun("row 1 1 1;", 1);
    x.crash();
    x.resume();
    is("behind all: nothing", x.count(6), 0);
  }

  // ---------------------------------------------------------------- promise 19

  @Says("`int pack(int index)`: PACK: how many LEAVES fewer there are; NONE: others, it can't be.")
  static void promise19_others() {
    LeafSweep x = told("index x plain on a;index y plain on b;" + up(3));
    String ahead = sight(x);
    for (int i : new int[] {-1, 2, 3, 4, 32, LOW, HIGH}) refused("INDEX " + i, x, x.pack(i), ahead, 0);
    is("one LEAF: none fewer", x.pack(1), 0);
    is("it costs 1 all the same", x.count(6), 1);
    is("it can be undone", x.count(8), 1);
    x = told("index x plain on a;");
    is("no LEAF", x.pack(0), 0);
    is("no cost", x.count(6), 0);
    is("it can be undone", x.count(8), 1);
    is("without a TABLE", new LeafSweep().pack(0), -1);
  }

  @Says("PACK an INDEX that the JOB is not AT:")
  static void promise19_notWhereTheJobIs() {
    LeafSweep x = begun("page 2;index x plain on a;index y plain on b;" + up(3), 3);
    String ahead = sight(x);
    refused("AT it", x, x.pack(0), ahead, 1);
    is("another one", x.pack(1), 0);
    x.crash();
    is("DOWN, AT it", x.pack(0), -1);
    is("DOWN, another one", x.pack(1), 0);
    x.resume();
    steps(x, 3);
    is("AT y", x.pack(1), -1);
    is("x, behind it", x.pack(0), 0);
    steps(x, 3);
    is("behind all: y", x.pack(1), 0);
    is("behind all: x", x.pack(0), 0);
  }

  @Says("from the first LEAF on: as long as it and the next one have page ENTRIES together at most, that one's are its; then so from the next one on;")
  static void promise19_pageTogetherAtMost() {
    int[][] gone = {{2, 7, 8}, {1, 2, 7, 8}, {1, 2, 4, 5}, {1, 2, 4, 5, 8}, {}, {0, 1, 2, 5, 8}, {2, 5, 8}, {0, 1, 3, 4, 6, 7}};
    String[] ahead = {"0 1|3 4 5|6", "0|3 4 5|6", "0|3|6 7 8", "0|3|6 7", "0 1 2|3 4 5|6 7 8", "3 4|6 7", "0 1|3 4|6 7", "2|5|8"};
    String[] due = {"0 1|3 4 5 6", "0 3 4 5|6", "0 3|6 7 8", "0 3 6 7", "0 1 2|3 4 5|6 7 8", "3 4 6 7", "0 1 3 4|6 7", "2 5 8"};
    int[] fewer = {1, 1, 1, 2, 0, 1, 1, 2};
    for (int i = 0; i < gone.length; i++) {
      LeafSweep x = told("page 4;index x plain on a;" + up(9));
      for (int r : gone[i]) x.remove(r);
      is("ahead", leaves(x, 0), ahead[i]);
      int spent = x.count(6), many = x.index(0, 3);
      is("fewer", x.pack(0), fewer[i]);
      is("behind", leaves(x, 0), due[i]);
      is("ENTRIES stay", x.index(0, 2), 9 - gone[i].length);
      is("cost", x.count(6), spent + many);
    }
    LeafSweep x = told("page 2;index x plain on a;" + downwards(8));
    is("ahead", leaves(x, 0), "7 6|5|4|3|2|1|0");
    is("fewer", x.pack(0), 3);
    is("behind", leaves(x, 0), "7 6|5 4|3 2|1 0");
  }

  @Says("it costs the number of LEAVES as ahead.")
  static void promise19_costsTheLeavesAsAhead() {
    LeafSweep x = told("page 2;index x plain on a;" + downwards(20));
    is("LEAVES", x.index(0, 3), 19);
    is("fewer", x.pack(0), 9);
    is("SPENT", x.count(6), 19);
    is("none fewer", x.pack(0), 0);
    is("SPENT", x.count(6), 29);
    is("HEIGHT", x.index(0, 4), 4);
  }

  // ---------------------------------------------------------------- promise 20

  @Says({"`boolean undo()`: UNDO: true; false: nothing can be.", "UNDO: all of these but CRASH,"})
  static void promise20_allOfTheseButCrash() {
    LeafSweep x = told("page 2;batch 2;index x plain on a;index y down on b;row 1 5 0;row 2 6 0;row 3 7 0;row 4 8 0;point loose at 1;point bound at 2;choose a from 1 to 2;");
    is("nothing", x.undo(), false);
    for (int what = 0; what < 13; what++) {
      String ahead = sight(x);
      int undos = x.count(8);
      is("done " + what, done(x, what), true);
      is("one more can be undone", x.count(8), undos + 1);
      is("undo " + what, x.undo(), true);
      is("as ahead of " + what, sight(x), ahead);
      is("as many as ahead", x.count(8), undos);
      is("undo can't be undone: done again " + what, done(x, what), true);
    }
    is("thirteen", x.count(8), 13);
    x = begun("page 2;batch 2;index x plain on a;index y down on b;row 1 5 0;row 2 6 0;row 3 7 0;choose a from 1 to 2;", 2);
    x.crash();
    String down = sight(x);
    is("resume", x.resume(), 2);
    is("undo of resume", x.undo(), true);
    is("DOWN again", sight(x), down);
    is("a CRASH can't be", x.undo(), false);
  }

  private static boolean done(LeafSweep x, int what) {
    switch (what) {
      case 0: return x.insert(9, 9, 9) == 4;
      case 1: return x.change(4, 0, 8);
      case 2: return x.remove(3);
      case 3: return x.point(0, 8) == 2;
      case 4: return x.drop(2);
      case 5: return x.pack(0) >= 0;
      case 6: return x.begin(0, 1, 2) == 2;
      case 7: return x.stop();
      case 8: return x.begin(-1, 0, 0) == 2;
      case 9: return x.insert(1, 1, 1) == 5;
      case 10: return x.step() == 0;
      case 11: return x.step() == 1 && x.job(0) == 1;
      default: return x.step() >= 0;
    }
  }

  @Says("UNDO: all of these but CRASH,")
  static void promise20_theEndOfAJob() {
    LeafSweep x = begun(TWO, 2);
    steps(x, 2);
    String ahead = sight(x);
    is("over", x.step(), -2);
    is("undo", x.undo(), true);
    is("behind all again", sight(x), ahead);
    x.undo();
    is("one gone SINCE again", x.job(3), 1);
    x.crash();
    is("the STAND is that of then: as when the JOB came", leaves(x, 0), "0 1|2");
    x = begun(TWO, 2);
    x.stop();
    is("undo of stop", x.undo(), true);
    is("POINTERS as in the JOB", x.pointer(1, 1), -2);
    is("stop again", x.stop(), true);
    is("POINTERS as ahead of it", x.pointer(1, 1), 1);
    is("undo", x.undo(), true);
    is("undo of begin", x.undo(), true);
    is("POINTERS as ahead of it", x.pointer(0, 1), 1);
    is("nothing", x.undo(), false);
  }

  @Says("UNDO: all of these but CRASH,")
  static void promise20_eachAsTheFirstThing() {
    String table = "page 2;batch 2;index x plain on a;index y down on b;row 1 5 0;row 2 6 0;row 3 7 0;row 4 8 0;point loose at 1;point bound at 2;choose a from 1 to 2;";
    for (int what = 0; what < 7; what++) {
      LeafSweep x = told(table);
      for (int i = 0; i < 3; i++) x.insert(9, 9, 9);
      x.remove(5);
      String ahead = sight(x);
      boolean did = what == 0 ? x.insert(8, 8, 8) == 7 : what == 1 ? x.change(4, 0, 8) : what == 2 ? x.remove(3) : what == 3 ? x.point(0, 9) == 2 : what == 4 ? x.drop(0) : what == 5 ? x.pack(0) > 0 : x.begin(0, 1, 2) == 2;
      is("done " + what, did, true);
      is("not as ahead", sight(x).equals(ahead), false);
      is("undo", x.undo(), true);
      is("as ahead of " + what, sight(x), ahead);
    }
  }

  @Says("UNDO: all of these but CRASH,")
  static void promise20_allThatAJobHas() {
    LeafSweep x = begun(SIDED, 1);
    x.insert(7, 8, 9);
    x.change(1, 0, 9);
    x.insert(6, 5, 4);
    String ahead = sight(x);
    is("step: the SIDE list is empty", x.step(), 0);
    is("undo", x.undo(), true);
    is("it is there again", sight(x), ahead);
    is("in its order", x.side(0) == 2007 && x.side(1) == 1002 - 40000 && x.side(2) == 1009 && x.side(3) == 3006, true);
    x.point(0, 9);
    x.undo();
    is("there still", sight(x), ahead);
    x = begun("batch 2;index x plain on a;" + up(6), 6);
    steps(x, 3);
    x.point(0, 0);
    x.step();
    x.undo();
    steps(x, 3);
    is("how many were gone at the RECORDS", x.record(0, 1) * 100 + x.record(1, 1) * 10 + x.record(2, 1), 246);
    x = told("batch 1;index x plain on a;index y plain on a;index z plain on a;index w plain on a;" + up(20));
    for (int i = 20; i < 30; i++) x.insert(i, i, i);
    x.begin(-1, 0, 0);
    steps(x, 119);
    x.step();
    x.undo();
    for (int k = 0; k < 119; k++) is("RECORD " + k, x.record(k, 0) * 100 + x.record(k, 1), k / 30 * 100 + k % 30 + 1);
    is("119", x.job(4), 119);
  }

  @Says("the last 16, one by one")
  static void promise20_theLast16() {
    LeafSweep x = told("index x plain on a;row 0 0 0;");
    for (int i = 1; i <= 40; i++) {
      is("change " + i, x.change(0, 0, i), true);
      is("how many", x.count(8), Math.min(i, 16));
    }
    for (int i = 39; i >= 24; i--) {
      is("undo", x.undo(), true);
      is("the value", x.row(0, 0), i);
      is("how many are left", x.count(8), i - 24);
    }
    is("a 17th", x.undo(), false);
    is("the value", x.row(0, 0), 24);
    for (int i = 100; i < 110; i++) x.change(0, 0, i);
    for (int i = 0; i < 5; i++) x.undo();
    is("ten and five back", x.row(0, 0), 104);
    for (int i = 200; i < 212; i++) x.change(0, 0, i);
    is("16 again", x.count(8), 16);
    for (int i = 0; i < 12; i++) x.undo();
    is("twelve back", x.row(0, 0), 104);
    for (int i = 0; i < 4; i++) x.undo();
    is("four more", x.row(0, 0), 100);
    is("no more", x.undo(), false);
    is("refused ones are none", x.change(0, 0, 1000), false);
    is("none", x.count(8), 0);
    is("what changes nothing is one", x.change(0, 0, 100), true);
    is("one", x.count(8), 1);
  }

  @Says("(SPENT, too; the CURSOR stays).")
  static void promise20_spentToo() {
    LeafSweep x = told("index x plain on a;row 5 0 0;");
    x.insert(6, 0, 0);
    is("2", x.count(6), 2);
    x.open(0, 0);
    is("fetch", x.fetch(), 0);
    is("fetch", x.fetch(), 1);
    x.undo();
    is("0", x.count(6), 0);
    is("the CURSOR is behind 6 still", x.fetch(), -1);
    x.insert(7, 0, 0);
    is("7 is behind it", x.fetch(), 1);
    x.open(0, 7);
    x.undo();
    is("opened at 7 it stays", x.fetch(), -1);
    x.insert(7, 0, 0);
    is("at 7", x.fetch(), 1);
  }

  // ---------------------------------------------------------------- promise 21

  @Says("`int judged(int what)`: JUDGED, what 0: a line (NONE: none), 1: how many, 2: SPENT; -2: others.")
  static void promise21_others() {
    LeafSweep x = told(TWO);
    for (int w : new int[] {-1, 3, 4, LOW, HIGH}) is("what " + w, x.judged(w), -2);
    is("no WORK: no line", x.judged(0), -1);
    is("no WORK: the TABLE's ROWS", x.judged(1), 3);
    is("no WORK: nothing", x.judged(2), 0);
    Due.work(x, "stop;begin;");
    is("the first line", x.judged(0), 0);
    LeafSweep y = new LeafSweep();
    is("without a TABLE", y.judged(1), 0);
    Due.work(y, "insert 1 1 1;insert 2 2 2;begin;step 1;");
    is("without a TABLE", y.judged(0), -1);
    is("without a TABLE", y.judged(1), 0);
  }

  @Says("JUDGED: the WORK from the TABLE as told:")
  static void promise21_fromTheTableAsTold() {
    LeafSweep x = told(TWO);
    x.insert(9, 9, 9);
    x.remove(0);
    x.begin(-1, 0, 0);
    Due.work(x, "begin;step 3;insert 1 1 1;");
    String ahead = sight(x);
    is("all can be", x.judged(0), -1);
    is("row 2 and the new one", x.judged(1), 2);
    is("PASS 3, RECORD 1, PUT 2", x.judged(2), 6);
    is("nothing is done by the asking", sight(x), ahead);
    is("undo is as ahead", x.count(8), 3);
    is("asked again", x.judged(2), 6);
  }

  @Says("the first line (from 0) that can't be (those are left out;")
  static void promise21_theFirstLineThatCantBe() {
    String[][] works = {{"crash;", "0"}, {"begin;crash;crash;", "2"}, {"resume;", "0"}, {"begin;resume;", "1"}, {"stop;", "0"}, {"begin;step 1;stop;", "2"}, {"begin;begin;", "1"}, {"step 1;", "0"}, {"begin;pack x;", "1"},
        {"remove 2;remove 2;", "1"}, {"remove 3;", "0"}, {"remove 29;", "0"}, {"change 3 a 5;", "0"}, {"change 0 a 5;", "0"}, {"change 0 b 5;", "-1"}, {"begin;change 0 b 5;", "1"}, {"begin;crash;step 1;", "2"},
        {"begin;crash;resume;stop;", "-1"}, {"begin;crash;stop;", "2"}, {"insert 1 1 1;remove 3;remove 3;stop;", "2"}, {"begin;stop;begin;step 3;", "-1"}, {"", "-1"}};
    for (String[] w : works) {
      LeafSweep x = told(TWO);
      Due.work(x, w[0]);
      is(w[0], x.judged(0), Integer.parseInt(w[1]));
    }
    LeafSweep x = told(TWO);
    Due.work(x, "stop;insert 5 5 5;crash;insert 6 6 6;remove 0;remove 0;begin;begin;resume;");
    is("the first one", x.judged(0), 0);
    is("the others are done: 2, 3 and 4", x.judged(1), 3);
    is("PUT 3 and 3, TAKEN 4, PASS of one LEFT by HEIGHT 2", x.judged(2), 3 + 3 + 4 + 4);
    Due.work(x, "insert 1 1 1;".repeat(28));
    is("a 31st ROW", x.judged(0), 27);
    is("30", x.judged(1), 30);
  }

  @Says("step: so many STEPS, one behind another, as far as can be; it can't be, if not all of them can;")
  static void promise21_steps() {
    String[][] works = {{"begin;step 1;", "-1", "1", "3"}, {"begin;step 2;", "-1", "1", "4"}, {"begin;step 3;", "-1", "1", "4"}, {"begin;step 4;", "1", "1", "4"}, {"begin;step 99;", "1", "1", "4"}, {"begin;step 99;insert 7 7 7;", "1", "2", "6"}, {"step 2;begin;", "0", "1", "3"}};
    for (String[] w : works) {
      LeafSweep x = told(TWO);
      Due.work(x, w[0]);
      is(w[0], x.judged(0), Integer.parseInt(w[1]));
      is(w[0] + " VISIBLE", x.judged(1), Integer.parseInt(w[2]));
      is(w[0] + " SPENT", x.judged(2), Integer.parseInt(w[3]));
    }
  }

  @Says("JUDGED: the WORK from the TABLE as told:")
  static void promise21_itsNumbers() {
    String table = "index o once on a;index p once on b;index q once on c;index r plain on a;row 1 2 3;row 4 5 6;row 10 20 30;";
    String[][] works = {{"insert 7 8 9;insert 7 0 0;", "1"}, {"insert 7 8 9;insert 0 8 0;", "1"}, {"insert 7 8 9;insert 0 0 9;", "1"}, {"insert 7 8 9;insert 8 9 7;", "-1"}, {"insert 7 8 9;insert 9 7 8;", "-1"},
        {"insert 1 0 0;", "0"}, {"insert 0 2 0;", "0"}, {"insert 0 0 3;", "0"}, {"insert 2 3 1;", "-1"}, {"insert 3 1 2;", "-1"}, {"insert 0 999 0;insert 999 0 999;", "-1"},
        {"change 1 a 7;insert 7 0 0;", "1"}, {"change 1 b 7;insert 0 7 0;", "1"}, {"change 1 c 7;insert 0 0 7;", "1"}, {"change 1 a 7;insert 4 7 7;", "-1"}, {"change 1 b 7;insert 7 5 7;", "-1"}, {"change 1 c 7;insert 7 7 6;", "-1"},
        {"change 2 b 2;", "0"}, {"change 2 b 5;", "0"}, {"change 2 b 4;", "-1"}, {"change 2 c 5;", "-1"}, {"change 3 a 9;", "0"}, {"remove 2;insert 10 20 30;", "-1"}, {"remove 1;insert 10 0 0;", "1"}};
    for (String[] w : works) {
      LeafSweep x = told(table);
      is(w[0], Due.work(x, w[0]), 0);
      is(w[0], x.judged(0), Integer.parseInt(w[1]));
    }
    LeafSweep x = told("page 2;index x plain on a;index y plain on b;row 4 0 0;row 3 1 0;row 2 2 0;row 1 3 0;");
    is("x", leaves(x, 0), "3 2|1|0");
    is("y", leaves(x, 1), "0 1|2 3");
    Due.work(x, "pack y;");
    is("two LEAVES", x.judged(2), 2);
    Due.work(x, "pack x;");
    is("three LEAVES", x.judged(2), 3);
    Due.work(x, "pack x;pack x;");
    is("three, then two", x.judged(2), 5);
    x = told("index x plain on a;row 1 1 1;row 2 2 2;choose a is 1;");
    x.begin(-1, 0, 0);
    is("by another batch", x.crashes(1, 1), 2);
    Due.work(x, "begin;step 2;");
    is("the TABLE's batch", x.judged(2), 3);
    LeafSweep y = new LeafSweep();
    Due.work(y, "insert 0 0 0;remove 0;");
    is("nothing points at 0 at first", y.judged(0), -1);
  }

  @Says({"begin: of all);", "how many ROWS are VISIBLE at last; SPENT at last."})
  static void promise21_atLast() {
    LeafSweep x = told("index x plain on a;index y plain on b;row 1 1 1;row 2 2 2;row 3 3 3;choose not a is 3;");
    Due.work(x, "begin;");
    is("the CHOSEN ones are not VISIBLE", x.judged(1), 1);
    is("PASS", x.judged(2), 2);
    Due.work(x, "begin;stop;");
    is("all", x.judged(1), 3);
    Due.work(x, "pack x;pack y;change 0 a 7;remove 1;insert 5 5 5;begin;insert 6 6 6;");
    is("0 and 3 are CHOSEN, 2 and 4 not", x.judged(1), 2);
    is("1, 1, 4, 4, 4, PASS 2, aside 1, PUT 2", x.judged(2), 19);
  }
}
