/** Promises 9 to 13, sentence by sentence: rows put in, taken out and changed, pointers told and dropped. */
public final class Bounds09To13Test extends Bounds {
  public static void main(String[] args) throws Exception { run(Bounds09To13Test.class); }

  private static final int[] NO_VALUES = {-1, 1000, 1001, 9999, LOW, HIGH};

  /** x on a, y on b; row 0 goes (a is 1), row 1 is there to be changed. */
  private static final String SIDED = "index x plain on a;index y plain on b;row 1 1 1;row 2 2 2;choose a is 1;";

  /** With a JOB AT x, 2 * changes on the SIDE list. */
  private static LeafSweep sided(String table, int changes) {
    LeafSweep x = begun(table, 1);
    for (int i = 0; i < changes; i++) is("change " + i, x.change(1, 0, 2 + (i + 1) % 2), true);
    is("on the SIDE list", x.job(6), 2 * changes);
    return x;
  }

  private static void refused(String what, LeafSweep x, boolean answer, String ahead, int undos) {
    is(what, answer, false);
    is(what + ": all as ahead", sight(x), ahead);
    is(what + ": nothing to undo", x.count(8), undos);
  }

  // ---------------------------------------------------------------- promise 9

  @Says({"`int insert(int a, int b, int c)`: INSERT: the ROW; NONE: others, refused.", "INSERT a, b, c (0 to 999): a ROW comes;"})
  static void promise9_values0To999() {
    LeafSweep x = told("index x plain on a;row 1 1 1;");
    String ahead = sight(x);
    for (int v : NO_VALUES) {
      refused("a " + v, x, x.insert(v, 5, 5) != -1, ahead, 0);
      refused("b " + v, x, x.insert(5, v, 5) != -1, ahead, 0);
      refused("c " + v, x, x.insert(5, 5, v) != -1, ahead, 0);
    }
    is("0", x.insert(0, 0, 0), 1);
    is("999", x.insert(999, 999, 999), 2);
    for (int w = 0; w < 3; w++) is("0", x.row(1, w), 0);
    for (int w = 0; w < 3; w++) is("999", x.row(2, w), 999);
    is("without a TABLE", new LeafSweep().insert(1, 2, 3), 0);
  }

  @Says("it is refused if there have been 30,")
  static void promise9_refusedIfThereHaveBeen30() {
    LeafSweep x = told("index x plain on a;");
    for (int r = 0; r < 30; r++) is("the row", x.insert(r, r, r), r);
    String ahead = sight(x);
    refused("a 31st", x, x.insert(5, 5, 5) != -1, ahead, 16);
    x.remove(3);
    is("one fewer is there", x.insert(5, 5, 5), -1);
    x.undo();
    x.undo();
    is("29 have come, the last one undone", x.count(3), 29);
    is("the 30th once more", x.insert(5, 5, 5), 29);
    is("a 31st", x.insert(5, 5, 5), -1);
  }

  @Says("or if a once INDEX has its COLUMN's value in a VISIBLE ROW.")
  static void promise9_refusedByOnce() {
    String[] columns = {"a", "b", "c"};
    for (int c = 0; c < 3; c++) {
      LeafSweep x = told("index p plain on " + columns[c] + ";index o once on " + columns[c] + ";row 5 6 7;row 1 2 3;choose a is 5;");
      String ahead = sight(x);
      refused("5 6 7", x, x.insert(5, 6, 7) != -1, ahead, 0);
      refused("of column " + c, x, x.insert(c == 0 ? 5 : 9, c == 1 ? 6 : 9, c == 2 ? 7 : 9) != -1, ahead, 0);
      is("of the other columns", x.insert(c == 0 ? 9 : 5, c == 1 ? 9 : 6, c == 2 ? 9 : 7), 2);
      is("its own value", x.insert(9, 9, 9), -1);
      x.remove(2);
      is("of a removed one", x.insert(9, 9, 9), 3);
      is("begin", x.begin(-1, 0, 0), 1);
      is("of a CHOSEN one", x.insert(5, 6, 7), 4);
      is("that one is VISIBLE", x.insert(5, 6, 7), -1);
      is("of another VISIBLE one", x.insert(1, 2, 3), -1);
    }
    LeafSweep y = told("index p plain on a;index d down on b;index q partial on c;row 5 6 7;");
    is("no once INDEX", y.insert(5, 6, 7), 1);
    y = told("index o once on a;index p once on b;index q once on c;row 5 6 7;");
    is("the last of three", y.insert(1, 1, 7), -1);
    is("the middle one", y.insert(1, 6, 1), -1);
    is("none", y.insert(6, 7, 5), 1);
  }

  @Says({"A PUT or a TAKE costs HEIGHT (as ahead of it) + 2.", "What costs is added to SPENT."})
  static void promise9_putCostsTheHeightAheadAnd2() {
    LeafSweep x = told("page 2;index x plain on a;");
    int[] spent = {2, 4, 6, 9, 12, 16, 20, 24, 28, 33};
    int[] height = {0, 0, 1, 1, 2, 2, 2, 2, 3, 3};
    for (int i = 0; i < 10; i++) {
      x.insert(i, 0, 0);
      is("SPENT behind " + i, x.count(6), spent[i]);
      is("HEIGHT behind " + i, x.index(0, 4), height[i]);
    }
    is("four at once", cost("index k plain on a;index l plain on b;index m down on c;index n once on a;"), 8);
    is("none", cost(""), 0);
    is("a partial one that it does not BELONG to", cost("index k plain on a;index p partial on a;part a is 7;"), 2);
    is("a partial one that it BELONGS to", cost("index k plain on a;index p partial on a;part a is 5;"), 4);
  }

  /** What an INSERT of 5, 5, 5 costs. */
  private static int cost(String table) {
    LeafSweep x = told(table);
    x.insert(5, 5, 5);
    return x.count(6);
  }

  @Says({"if the ROW (as it was) BELONGED to it, is TAKEN, then the one with the new value, if it BELONGS to it and is THERE, PUT"})
  static void promise9_putWhereItBelongs() {
    LeafSweep x = told("index x plain on b;index p partial on a;index y down on c;row 5 5 5;part not a over b;");
    is("it BELONGS", x.insert(3, 4, 5), 1);
    is("x", leaves(x, 0), "1 0");
    is("p", leaves(x, 1), "1 0");
    is("y", leaves(x, 2), "0 1");
    is("it does not", x.insert(4, 3, 2), 2);
    is("x", leaves(x, 0), "2 1 0");
    is("p", leaves(x, 1), "1 0");
    is("y", leaves(x, 2), "0 1 2");
    x = told("index p partial on a;part every 3;");
    for (int r = 0; r < 7; r++) x.insert(9 - r, 0, 0);
    is("by the number that it gets", leaves(x, 0), "6 3 0");
  }

  @Says("but if the JOB is AT that INDEX these are laid on the SIDE list instead, in this order, and cost 1 each;")
  static void promise9_laidOnTheSideList() {
    LeafSweep x = begun(SIDED, 1);
    is("PASS of x", x.count(6), 2);
    is("the row", x.insert(7, 8, 9), 2);
    is("1, and 2 for y", x.count(6), 5);
    is("on the SIDE list", x.side(0), 2007);
    is("not in x", leaves(x, 0), "0 1");
    is("in y", leaves(x, 1), "0 1 2");
    is("step", x.step(), 0);
    is("in x", leaves(x, 0), "1 2");
    is("AT y", x.job(0), 1);
    is("another one", x.insert(3, 3, 3), 3);
    is("in x", leaves(x, 0), "1 3 2");
    is("on the SIDE list", x.side(0), 3003);
    x.step();
    is("behind all", x.job(0), 4);
    int spent = x.count(6);
    is("behind all it is PUT", x.insert(4, 4, 4), 4);
    is("in both", x.row(4, 5), 3);
    is("at the cost of a PUT", x.count(6), spent + 4);
    x = begun(SIDED, 1);
    x.crash();
    is("DOWN, too", x.insert(7, 8, 9), 2);
    is("on the SIDE list", x.job(6), 1);
  }

  @Says("INSERT, REMOVE, CHANGE are refused, too, if more than 40 would be on it then.")
  static void promise9_refusedByAFullSideList() {
    LeafSweep x = sided(SIDED, 19);
    is("the 39th", x.insert(5, 5, 5), 2);
    is("the 40th", x.insert(5, 5, 5), 3);
    is("on it", x.job(6), 40);
    String ahead = sight(x);
    refused("the 41st", x, x.insert(5, 5, 5) != -1, ahead, 16);
    is("step", x.step(), 0);
    is("all carried out", x.job(6), 0);
    is("the JOB is not AT it", x.insert(5, 5, 5), 4);
    x = sided("index p partial on a;row 1 0 0;row 2 0 0;choose a is 1;part b is 0;", 20);
    is("it would not be laid", x.insert(5, 1, 0), 2);
    is("it would be", x.insert(5, 0, 0), -1);
    is("the number is free still", x.insert(5, 1, 0), 3);
  }

  @Says("but if the JOB is AT that INDEX these are laid on the SIDE list instead, in this order, and cost 1 each;")
  static void promise9_behindAllOfFourIndexes() {
    String four = "index k plain on a;index l down on b;index m plain on c;index n partial on a;";
    LeafSweep x = begun(four + "row 1 1 1;row 2 2 2;choose a is 1;", 1);
    steps(x, 4);
    is("behind all", x.job(0), 4);
    int spent = x.count(6);
    is("insert", x.insert(3, 3, 3), 2);
    is("PUT into all", x.row(2, 5), 15);
    is("2 each", x.count(6), spent + 8);
    is("change", x.change(1, 0, 5), true);
    is("remove", x.remove(2), true);
    is("nothing aside", x.job(6), 0);
  }

  // ---------------------------------------------------------------- promise 10

  @Says({"`boolean remove(int row)`: REMOVE: true; false: others, refused.", "REMOVE a VISIBLE ROW: it is THERE no more;"})
  static void promise10_aVisibleRow() {
    LeafSweep x = told(SIDED);
    String ahead = sight(x);
    for (int r : new int[] {-1, 2, 29, 30, 31, 32, 33, LOW, HIGH}) refused("row " + r, x, x.remove(r), ahead, 0);
    is("remove", x.remove(1), true);
    is("THERE no more", x.row(1, 3), 0);
    is("it can be undone", x.count(8), 1);
    ahead = sight(x);
    refused("once more", x, x.remove(1), ahead, 1);
    x.begin(-1, 0, 0);
    ahead = sight(x);
    refused("a CHOSEN one", x, x.remove(0), ahead, 2);
    is("the last one of 30", last().remove(29), true);
    is("without a TABLE", new LeafSweep().remove(0), false);
  }

  private static LeafSweep last() {
    LeafSweep x = told("");
    for (int i = 0; i < 30; i++) x.insert(i, i, i);
    return x;
  }

  @Says("refused, if a firm POINTER points at its a, and no other VISIBLE ROW has that;")
  static void promise10_refusedByAFirmPointer() {
    String rows = "row 7 5 5;row 5 7 7;row 8 0 0;row 8 1 0;choose b is 1;";
    LeafSweep x = told(rows + "point loose at 7;point firm at 7;");
    String ahead = sight(x);
    refused("a firm one", x, x.remove(0), ahead, 0);
    is("its b is no a", x.remove(1), true);
    x.insert(7, 0, 0);
    is("another one has it", x.remove(0), true);
    is("now no other one", x.remove(4), false);
    x.drop(1);
    is("it is GONE", x.remove(4), true);
    x = told(rows + "point firm at 8;");
    is("begin", x.begin(-1, 0, 0), 1);
    is("a CHOSEN one does not count", x.remove(2), false);
    is("free tells it", x.free(2), false);
    x.stop();
    is("it does when it is VISIBLE", x.remove(2), true);
    x = told(rows + "point loose at 7;point bound at 7;");
    is("loose and bound ones do not hinder", x.remove(0), true);
  }

  @Says("else, if no other one has it, loose POINTERS at that value point nowhere, bound ones are GONE.")
  static void promise10_looseAndBoundPointers() {
    String rows = "row 7 0 0;row 7 1 0;row 5 0 0;point loose at 7;point bound at 7;point loose at 7;point bound at 5;point loose at 5;point firm at 5;choose b is 1;";
    LeafSweep x = told(rows);
    is("one of two", x.remove(0), true);
    int[] stay = {7, 7, 7, 5, 5, 5};
    for (int p = 0; p < 6; p++) is("POINTER " + p, x.pointer(p, 1), stay[p]);
    is("the other one", x.remove(1), true);
    int[] then = {-1, -2, -1, 5, 5, 5};
    for (int p = 0; p < 6; p++) is("POINTER " + p, x.pointer(p, 1), then[p]);
    x.insert(7, 7, 7);
    is("nowhere it stays", x.pointer(0, 1), -1);
    is("GONE it stays", x.pointer(1, 1), -2);
    x = told(rows);
    x.begin(-1, 0, 0);
    is("the other one is CHOSEN", x.remove(0), true);
    for (int p = 0; p < 6; p++) is("POINTER " + p, x.pointer(p, 1), then[p]);
    x.stop();
    for (int p = 0; p < 6; p++) is("BEGIN did not change POINTER " + p, x.pointer(p, 1), then[p]);
  }

  @Says("else, if no other one has it, loose POINTERS at that value point nowhere, bound ones are GONE.")
  static void promise10_twelvePointersAtValue0() {
    LeafSweep x = told("row 0 0 0;row 999 0 0;" + "point loose at 0;point bound at 0;".repeat(4));
    for (int p = 8; p < 12; p++) x.point(p < 11 ? 1 : 0, p < 11 ? 0 : 999);
    is("the 12th is firm", x.remove(1), false);
    is("no firm one at 0", x.remove(0), true);
    for (int p = 0; p < 11; p++) is("POINTER " + p, x.pointer(p, 1), p < 8 && p % 2 == 1 ? -2 : -1);
    is("firm", x.pointer(11, 1), 999);
    is("firm", x.remove(1), false);
  }

  @Says("By these, for each INDEX, by numbers: the ENTRY with the old value,")
  static void promise10_takenFromEachIndex() {
    LeafSweep x = told("page 2;index x plain on a;index p partial on b;index y down on b;row 1 1 1;row 2 2 2;row 3 3 3;part a is 2;");
    is("not in p: 3 for x, 3 for y", x.remove(0) ? x.count(6) : -1, 6);
    is("x", leaves(x, 0), "1|2");
    is("y", leaves(x, 2), "2 1");
    is("p", leaves(x, 1), "1");
    is("in p: 3 for x, 2 for p, 2 for y", x.remove(1) ? x.count(6) : -1, 13);
    is("p", leaves(x, 1), "");
    is("the last one: 2 and 2", x.remove(2) ? x.count(6) : -1, 17);
    is("without an INDEX", told("row 1 1 1;").remove(0), true);
  }

  @Says("but if the JOB is AT that INDEX these are laid on the SIDE list instead, in this order, and cost 1 each;")
  static void promise10_laidOnTheSideList() {
    LeafSweep x = begun(SIDED, 1);
    is("remove", x.remove(1), true);
    is("PASS 2, aside 1, TAKEN from y 2", x.count(6), 5);
    is("on the SIDE list", x.side(0), 1002 - 40000);
    is("x has it still", leaves(x, 0), "0 1");
    is("y has not", leaves(x, 1), "0");
    x.step();
    is("carried out", leaves(x, 0), "");
  }

  @Says("INSERT, REMOVE, CHANGE are refused, too, if more than 40 would be on it then.")
  static void promise10_refusedByAFullSideList() {
    LeafSweep x = sided(SIDED, 19);
    x.insert(5, 5, 5);
    is("the 40th", x.remove(2), true);
    String ahead = sight(x);
    refused("the 41st", x, x.remove(1), ahead, 16);
    x = sided("index p partial on a;row 1 0 0;row 2 0 0;row 3 1 0;row 4 0 0;choose a is 1;part b is 0;", 20);
    is("it would be laid", x.remove(3), false);
    is("it would not", x.remove(2), true);
    x.step();
    is("then it can be", x.remove(3), true);
  }

  // ---------------------------------------------------------------- promise 11

  @Says({"`boolean change(int row, int column, int value)`: CHANGE of a COLUMN (0 to 2) to 0 to 999: true; false: others, refused.", "CHANGE a COLUMN of a VISIBLE ROW:"})
  static void promise11_others() {
    LeafSweep x = told(SIDED);
    String ahead = sight(x);
    for (int r : new int[] {-1, 2, 29, 30, 31, 32, 33, LOW, HIGH}) refused("row " + r, x, x.change(r, 0, 5), ahead, 0);
    for (int c : new int[] {-1, 3, 4, LOW, HIGH}) refused("COLUMN " + c, x, x.change(0, c, 5), ahead, 0);
    for (int v : NO_VALUES) for (int c = 0; c < 3; c++) refused("value " + v, x, x.change(0, c, v), ahead, 0);
    for (int c = 0; c < 3; c++) {
      is("to 0", x.change(1, c, 0), true);
      is("it is 0", x.row(1, c), 0);
      is("to 999", x.change(1, c, 999), true);
      is("it is 999", x.row(1, c), 999);
      is("the row ahead stays", x.row(0, c), 1);
    }
    x.begin(-1, 0, 0);
    ahead = sight(x);
    refused("a CHOSEN one", x, x.change(0, 2, 5), ahead, 7);
    x.remove(1);
    ahead = sight(x);
    refused("one that is THERE no more", x, x.change(1, 2, 5), ahead, 8);
    is("without a TABLE", new LeafSweep().change(0, 0, 0), false);
  }

  @Says("refused, if (its value being another one now) a once INDEX has the value in another VISIBLE ROW,")
  static void promise11_refusedByOnce() {
    LeafSweep x = told("index o once on b;index p plain on a;index q once on c;row 1 1 1;row 2 2 2;row 3 3 3;choose a is 3;");
    String ahead = sight(x);
    refused("b", x, x.change(0, 1, 2), ahead, 0);
    refused("c", x, x.change(0, 2, 2), ahead, 0);
    is("a has no once INDEX", x.change(0, 0, 2), true);
    is("to what it is", x.change(0, 1, 1), true);
    is("to a free one", x.change(0, 1, 9), true);
    is("the old one is free then", x.change(1, 1, 1), true);
    is("begin", x.begin(-1, 0, 0), 1);
    is("of a CHOSEN one", x.change(0, 1, 3), true);
    is("but then it is another VISIBLE one's", x.change(1, 1, 3), false);
    x.remove(1);
    is("of one that is THERE no more", x.change(0, 1, 1), true);
  }

  @Says("or (COLUMN a) any POINTER points at the old one, and no other VISIBLE ROW has that.")
  static void promise11_refusedByAnyPointer() {
    for (String sort : new String[] {"firm", "loose", "bound"}) {
      LeafSweep x = told("row 7 7 7;row 8 7 7;row 9 1 1;row 9 0 0;point " + sort + " at 7;point " + sort + " at 9;choose b is 1;");
      String ahead = sight(x);
      refused(sort, x, x.change(0, 0, 5), ahead, 0);
      is("to what it is", x.change(0, 0, 7), true);
      is("COLUMN b", x.change(0, 1, 5), true);
      is("COLUMN c", x.change(0, 2, 5), true);
      is("no POINTER points at 8", x.change(1, 0, 7), true);
      is("another one has it now", x.change(0, 0, 5), true);
      is("now no other one", x.change(1, 0, 5), false);
      x.drop(0);
      is("it is GONE", x.change(1, 0, 5), true);
      is("begin", x.begin(-1, 0, 0), 1);
      is("a CHOSEN one does not count", x.change(3, 0, 5), false);
      x.stop();
      is("it does when it is VISIBLE", x.change(3, 0, 5), true);
    }
    LeafSweep y = told("row 7 0 0;row 8 0 0;point loose at 7;choose a is 7;");
    y.begin(-1, 0, 0);
    is("it points nowhere", y.pointer(0, 1), -1);
    y.insert(7, 0, 0);
    is("so it does not hinder", y.change(2, 0, 6), true);
  }

  @Says({"the ENTRY with the old value, if the ROW (as it was) BELONGED to it, is TAKEN, then the one with the new value, if it BELONGS to it and is THERE, PUT (neither, if the two are one);"})
  static void promise11_takenThenPut() {
    LeafSweep x = told("page 2;index x plain on a;" + up(3));
    is("x", leaves(x, 0), "0 1|2");
    x.change(2, 0, 0);
    is("TAKEN at 3, then PUT at 2, the HEIGHT being 0 then", x.count(6), 5);
    is("the LEAF had gone ahead of the PUT", leaves(x, 0), "0 2|1");
    x.change(2, 1, 5);
    is("another COLUMN: neither", x.count(6), 5);
    x.change(2, 0, 0);
    is("the two are one: neither", x.count(6), 5);
    is("x", leaves(x, 0), "0 2|1");
    x = told("page 2;index x plain on a;row 1 0 0;row 3 0 0;row 2 0 0;");
    is("x", leaves(x, 0), "0 2|1");
    is("to a value within its own LEAF", x.change(2, 0, 1), true);
    is("TAKEN first: there is room", leaves(x, 0), "0 2|1");
  }

  @Says({"if the ROW (as it was) BELONGED to it, is TAKEN, then the one with the new value, if it BELONGS to it and is THERE, PUT"})
  static void promise11_belongsByIt() {
    LeafSweep x = told("index p partial on a;row 1 5 1;row 2 6 2;part b is 5;");
    x.change(1, 1, 5);
    is("it comes in: PUT", leaves(x, 0), "0 1");
    is("at 2", x.count(6), 2);
    x.change(0, 1, 7);
    is("it goes out: TAKEN", leaves(x, 0), "1");
    is("at 2", x.count(6), 4);
    x.change(0, 0, 9);
    is("it is out: neither", x.count(6), 4);
    x.change(1, 2, 9);
    is("it stays in, as it is: neither", x.count(6), 4);
    x.change(1, 0, 0);
    is("it stays in, with another value", x.count(6), 8);
    x = told("index p partial on b;row 1 5 1;row 2 6 2;part b from 5 to 7;");
    x.change(0, 1, 7);
    is("the COLUMN of both", leaves(x, 0), "1 0");
    x.change(0, 1, 8);
    is("out by its own COLUMN", leaves(x, 0), "1");
    is("TAKEN and PUT, TAKEN", x.count(6), 6);
  }

  @Says("but if the JOB is AT that INDEX these are laid on the SIDE list instead, in this order, and cost 1 each;")
  static void promise11_laidOnTheSideList() {
    LeafSweep x = begun(SIDED, 1);
    is("change", x.change(1, 0, 9), true);
    is("PASS 2, aside 1 and 1", x.count(6), 4);
    is("first the one TAKEN", x.side(0), 1002 - 40000);
    is("then the one PUT", x.side(1), 1009);
    is("x", leaves(x, 0), "0 1");
    is("change of b", x.change(1, 1, 9), true);
    is("y, TAKEN and PUT", x.count(6), 8);
    is("nothing aside", x.job(6), 2);
    is("to what it is", x.change(1, 0, 9), true);
    is("neither", x.job(6), 2);
    x = begun("index p partial on a;row 1 0 0;row 2 0 0;choose a is 1;part b is 0;", 1);
    x.change(1, 1, 1);
    is("out of it", x.job(6), 1);
    is("TAKEN", x.side(0), 1002 - 40000);
    x.change(1, 0, 5);
    is("neither", x.job(6), 1);
    x.change(1, 1, 0);
    is("PUT", x.side(1), 1005);
    is("PASS 2, aside 1 and 1", x.count(6), 4);
  }

  @Says("INSERT, REMOVE, CHANGE are refused, too, if more than 40 would be on it then.")
  static void promise11_refusedByAFullSideList() {
    LeafSweep x = sided(SIDED, 20);
    is("40 are on it", x.job(6), 40);
    String ahead = sight(x);
    refused("42", x, x.change(1, 0, 9), ahead, 16);
    is("none aside: the value that it has", x.change(1, 0, 2), true);
    is("none aside: another INDEX", x.change(1, 1, 9), true);
    x = sided(SIDED, 19);
    x.insert(5, 5, 5);
    ahead = sight(x);
    refused("39 and two", x, x.change(1, 0, 9), ahead, 16);
    is("its value stays", x.row(1, 0), 3);
    x.undo();
    is("38 and two", x.change(1, 0, 9), true);
    x = sided("index p partial on a;row 1 0 0;row 2 0 0;row 3 0 0;choose a is 1;part b is 0;", 19);
    is("39", x.change(2, 1, 1), true);
    is("39 and two", x.change(1, 0, 9), false);
    is("39 and one", x.change(1, 1, 1), true);
    is("40 and one", x.change(2, 1, 0), false);
    is("40 and none", x.change(2, 0, 9), true);
  }

  // ---------------------------------------------------------------- promise 12

  @Says({"`int point(int sort, int value)`: POINT at 0 to 999: the POINTER; NONE: others, refused."})
  static void promise12_others() {
    LeafSweep x = told("row 0 5 5;row 999 6 6;");
    String ahead = sight(x);
    for (int s : new int[] {-1, 3, 4, LOW, HIGH}) refused("SORT " + s, x, x.point(s, 0) != -1, ahead, 0);
    for (int v : NO_VALUES) refused("value " + v, x, x.point(0, v) != -1, ahead, 0);
    is("0", x.point(0, 0), 0);
    is("999", x.point(1, 999), 1);
    is("bound", x.point(2, 0), 2);
    for (int p = 0; p < 3; p++) is("SORT", x.pointer(p, 0), p);
    is("nothing SPENT", x.count(6), 0);
    is("undo", x.count(8), 3);
    is("without a TABLE", new LeafSweep().point(0, 0), -1);
  }

  @Says("POINT: 12 at most ever;")
  static void promise12_12Ever() {
    LeafSweep x = told("row 7 0 0;" + "point firm at 7;".repeat(8));
    for (int p = 8; p < 12; p++) is("the POINTER", x.point(p % 3, 7), p);
    String ahead = sight(x);
    refused("a 13th", x, x.point(1, 7) != -1, ahead, 4);
    x.drop(0);
    x.drop(11);
    is("dropped ones count", x.point(1, 7), -1);
    is("how many", x.count(5), 12);
    x.undo();
    x.undo();
    x.undo();
    is("the 12th is undone", x.point(1, 7), 11);
  }

  @Says("refused, if no VISIBLE ROW has the value.")
  static void promise12_refusedWithoutAVisibleRow() {
    LeafSweep x = told("row 7 5 6;row 8 5 6;row 8 4 4;choose a is 7 or b is 4;");
    String ahead = sight(x);
    refused("none has 9", x, x.point(0, 9) != -1, ahead, 0);
    refused("5 is a b", x, x.point(0, 5) != -1, ahead, 0);
    refused("6 is a c", x, x.point(0, 6) != -1, ahead, 0);
    is("begin", x.begin(-1, 0, 0), 2);
    is("a CHOSEN one's", x.point(0, 7), -1);
    is("a VISIBLE one's, too", x.point(0, 8), 0);
    x.insert(7, 0, 0);
    is("another one has it", x.point(1, 7), 1);
    x.change(3, 1, 1);
    x.remove(3);
    is("removed", x.point(1, 7), -1);
  }

  // ---------------------------------------------------------------- promise 13

  @Says({"`boolean drop(int pointer)`: DROP: true; false: others, GONE already.", "DROP: it is GONE."})
  static void promise13_drop() {
    LeafSweep x = told("row 7 0 0;row 8 0 0;point firm at 7;point loose at 7;point bound at 7;point loose at 8;point bound at 8;choose a is 8;");
    String ahead = sight(x);
    for (int p : new int[] {-1, 5, 11, 12, 13, LOW, HIGH}) refused("POINTER " + p, x, x.drop(p), ahead, 0);
    for (int p = 0; p < 3; p++) {
      is("drop", x.drop(p), true);
      is("GONE", x.pointer(p, 1), -2);
      is("GONE already", x.drop(p), false);
    }
    is("undo", x.count(8), 3);
    x.begin(-1, 0, 0);
    is("it points nowhere", x.pointer(3, 1), -1);
    is("that can be dropped", x.drop(3), true);
    is("GONE", x.pointer(3, 1), -2);
    is("GONE by BEGIN", x.drop(4), false);
    is("nothing SPENT but by BEGIN", x.count(6), 0);
    is("without a TABLE", new LeafSweep().drop(0), false);
  }
}
