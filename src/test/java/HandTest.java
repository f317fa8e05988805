/** Promises 5 to 21: what stands in the table, what is done by hand, undone, and judged. */
public final class HandTest {
  private static final String FIVE = "page 2;batch 2;index x plain on a;index y down on b;index z once on c;"
      + "row 10 5 1;row 20 5 2;row 10 7 3;row 30 1 4;row 20 9 5;point firm at 30;point loose at 20;point bound at 10;choose a from 10 to 20;";
  /** x is 0 1|2 3, y is 3 2|1|0; the ROWS 0, 1, 2 go. */
  static final String FOUR = "page 2;batch 2;index x plain on a;index y down on b;row 1 1 0;row 2 2 0;row 3 3 0;row 4 4 0;choose a from 1 to 3;";
  /** The ROWS 0 and 1 are at the two ends of six LEAVES, so that PROBING is the WAY. */
  static final String ENDS = "page 2;batch 1;index x plain on a;row 11 0 0;row 1 0 0;row 2 0 0;row 3 0 0;row 4 0 0;row 5 0 0;row 6 0 0;row 7 0 0;"
      + "row 8 0 0;row 9 0 0;row 10 0 0;choose a is 11 or a is 1;";

  public static void main(String[] args) {
    rowsAndIndexes();
    leavesAreCut();
    pointersAreTold();
    inserting();
    removing();
    changing();
    changingPartial();
    pointing();
    beginning();
    stepping();
    sideLists();
    stopping();
    crashing();
    packing();
    undoing();
    undoingAll();
    judging();
    Due.end();
  }

  private static void rowsAndIndexes() {
    LeafSweep x = Due.told(FIVE);
    Due.due("5: a", x.row(3, 0), 30);
    Due.due("5: b", x.row(3, 1), 1);
    Due.due("5: c", x.row(3, 2), 4);
    Due.due("5: there", x.row(3, 3), 1);
    Due.due("5: chosen", x.row(3, 4), 0);
    Due.due("5: indexes", x.row(3, 5), 7);
    int[][] others = {{3, 6}, {3, -1}, {5, 0}, {-1, 0}, {30, 3}, {Integer.MAX_VALUE, 0}, {Integer.MIN_VALUE, 0}};
    for (int[] o : others) Due.due("5: row(" + o[0] + ", " + o[1] + ")", x.row(o[0], o[1]), -1);
    x.begin(-1, 0, 0);
    Due.due("5: chosen", x.row(4, 4), 1);
    Due.due("5: chosen ones are there", x.row(4, 3), 1);
    x.step();
    Due.due("5: an entry went", x.row(0, 5), 6);
    for (int i = 0; i < 12; i++) x.step();
    Due.due("5: there no more", x.row(0, 3), 0);
    Due.due("5: nobody is chosen without a job", x.row(0, 4), 0);
    Due.due("5: values stay", x.row(0, 0), 10);
    Due.due("5: no entries", x.row(0, 5), 0);
    x = Due.told(FIVE);
    int[] first = {0, 0, 5, 3, 2, -1};
    int[] second = {1, 1, 5, 3, 2, -1};
    for (int w = 0; w < 6; w++) Due.due("6: index(0, " + w + ")", x.index(0, w), first[w]);
    for (int w = 0; w < 6; w++) Due.due("6: index(1, " + w + ")", x.index(1, w), second[w]);
    Due.due("6: once", x.index(2, 0), 2);
    Due.due("6: c", x.index(2, 1), 2);
    Due.due("6: none such", x.index(3, 0), -1);
    Due.due("6: none such", x.index(-1, 0), -1);
    Due.due("6: others", x.index(0, -1), -1);
    x = Due.told("index p partial on b;");
    Due.due("6: partial", x.index(0, 0), 3);
    Due.due("6: no entries", x.index(0, 2), 0);
    Due.due("6: no leaves", x.index(0, 3), 0);
    Due.due("6: no height", x.index(0, 4), 0);
  }

  private static void leavesAreCut() {
    LeafSweep x = Due.told(FIVE);
    Due.due("7: x", Due.leaves(x, 0), "0 2|1 4|3");
    Due.due("7: y", Due.leaves(x, 1), "4 2|0|1 3");
    int[][] others = {{0, 3, 0}, {0, 2, 1}, {0, -1, 0}, {0, 0, -1}, {3, 0, 0}, {-1, 0, 0}, {0, Integer.MAX_VALUE, 0}, {0, 0, Integer.MAX_VALUE}};
    for (int[] o : others) Due.due("7: leaf(" + o[0] + ", " + o[1] + ", " + o[2] + ")", x.leaf(o[0], o[1], o[2]), -1);
    Due.due("7: nine upwards by five", Due.leaves(Due.told("page 5;index x plain on a;" + upwards(9)), 0), "0 1 2|3 4 5|6 7 8");
    Due.due("7: nine downwards by five", Due.leaves(Due.told("page 5;index x down on a;" + upwards(9)), 0), "8 7 6|5 4 3|2 1 0");
    Due.due("7: nine upwards by four", Due.leaves(Due.told("page 4;index x once on a;" + upwards(9)), 0), "0 1 2|3 4 5|6 7 8");
    Due.due("7: nine upwards by eight", Due.leaves(Due.told("page 8;index x once on a;" + upwards(9)), 0), "0 1 2 3 4|5 6 7 8");
    Due.due("7: equal ones by numbers, down too", Due.leaves(Due.told("page 3;index x down on b;" + upwards(5)), 0), "0 1|2 3 4");
    int[] heights = {0, 0, 1, 2, 2, 3};
    for (int n = 0; n < 6; n++) Due.due("6: height of " + n + " leaves by two", Due.told("page 2;index x plain on a;" + upwards(2 * n)).index(0, 4), heights[n]);
  }

  static String upwards(int n) {
    StringBuilder s = new StringBuilder();
    for (int i = 0; i < n; i++) s.append("row ").append(i).append(" 0 0;");
    return s.toString();
  }

  private static void pointersAreTold() {
    LeafSweep x = Due.told(FIVE);
    for (int p = 0; p < 3; p++) Due.due("8: sort", x.pointer(p, 0), p);
    Due.due("8: firm at", x.pointer(0, 1), 30);
    Due.due("8: loose at", x.pointer(1, 1), 20);
    Due.due("8: bound at", x.pointer(2, 1), 10);
    int[][] others = {{3, 0}, {-1, 0}, {0, 2}, {0, -1}, {12, 1}, {Integer.MIN_VALUE, 1}};
    for (int[] o : others) Due.due("8: others", x.pointer(o[0], o[1]), -3);
    x.begin(-1, 0, 0);
    Due.due("8: firm", x.pointer(0, 1), 30);
    Due.due("8: nowhere", x.pointer(1, 1), -1);
    Due.due("8: gone", x.pointer(2, 1), -2);
    Due.due("8: its sort stays", x.pointer(2, 0), 2);
  }

  private static void inserting() {
    LeafSweep x = Due.told(FIVE);
    Due.due("9: refused by once", x.insert(1, 1, 4), -1);
    int[][] wrong = {{-1, 1, 9}, {1, -1, 9}, {1, 1, -1}, {1000, 1, 9}, {1, 1000, 9}, {1, 1, 1000}, {Integer.MIN_VALUE, 1, 9}};
    for (int[] w : wrong) Due.due("9: others", x.insert(w[0], w[1], w[2]), -1);
    Due.due("9: nothing spent", x.count(6), 0);
    Due.due("9: nothing to undo", x.count(8), 0);
    Due.due("9: the row", x.insert(15, 6, 0), 5);
    Due.due("9: spent, height 2 and 2 for each", x.count(6), 12);
    Due.due("9: x", Due.leaves(x, 0), "0 2|5|1 4|3");
    Due.due("9: y", Due.leaves(x, 1), "4 2|5|0|1 3");
    Due.due("9: z", Due.leaves(x, 2), "5 0|1|2 3|4");
    Due.due("9: the edges", x.insert(0, 999, 999), 6);
    for (int i = 7; i < 30; i++) Due.due("9: the row", x.insert(i, i, i), i);
    Due.due("9: 30 ever", x.insert(1, 1, 500), -1);
    Due.due("9: removed", x.remove(29), true);
    Due.due("9: a number is not used again", x.insert(1, 1, 500), -1);
    x = Due.told(FIVE);
    x.begin(-1, 0, 0);
    Due.due("9: a chosen one's value is free", x.insert(10, 5, 1), 5);
    Due.due("9: a visible one's is not", x.insert(10, 5, 4), -1);
    Due.due("9: nor the new one's", x.insert(10, 5, 1), -1);
  }

  private static void removing() {
    LeafSweep x = Due.told(FIVE);
    Due.due("10: the last one a firm one points at", x.remove(3), false);
    Due.due("10: none such", x.remove(5), false);
    Due.due("10: none such", x.remove(-1), false);
    Due.due("10: none such", x.remove(Integer.MAX_VALUE), false);
    Due.due("10: one of two", x.remove(0), true);
    Due.due("10: bound one stays", x.pointer(2, 1), 10);
    Due.due("10: there no more", x.row(0, 3), 0);
    Due.due("10: x", Due.leaves(x, 0), "2|1 4|3");
    Due.due("10: y", Due.leaves(x, 1), "4 2|1 3");
    Due.due("10: spent", x.count(6), 12);
    Due.due("10: once more", x.remove(0), false);
    Due.due("10: the last one", x.remove(2), true);
    Due.due("10: bound one goes", x.pointer(2, 1), -2);
    Due.due("10: loose one stays", x.pointer(1, 1), 20);
    x.remove(1);
    x.remove(4);
    Due.due("10: loose one points nowhere", x.pointer(1, 1), -1);
    Due.due("10: the firm one's", x.remove(3), false);
    x.drop(0);
    Due.due("10: it is dropped", x.remove(3), true);
    Due.due("10: no leaves", x.index(0, 3), 0);
    x = Due.told(FIVE);
    x.insert(30, 30, 30);
    x.begin(0, 10, 10);
    Due.due("10: a chosen one", x.remove(0), false);
    Due.due("10: another one has it", x.remove(3), true);
    Due.due("10: but no other one now", x.remove(5), false);
    x = Due.told("row 7 0 0;row 7 1 0;point loose at 7;point firm at 7;choose b is 1;");
    x.begin(-1, 0, 0);
    Due.due("10: a chosen one does not count", x.remove(0), false);
  }

  private static void changing() {
    LeafSweep x = Due.told(FIVE);
    int[][] wrong = {{5, 0, 1}, {-1, 0, 1}, {0, 3, 1}, {0, -1, 1}, {0, 0, 1000}, {0, 0, -1}, {Integer.MAX_VALUE, 0, 0}};
    for (int[] w : wrong) Due.due("11: others", x.change(w[0], w[1], w[2]), false);
    Due.due("11: a once value of another", x.change(0, 2, 2), false);
    Due.due("11: the firm one's last", x.change(3, 0, 5), false);
    Due.due("11: to what it is", x.change(3, 0, 30), true);
    Due.due("11: that costs nothing", x.count(6), 0);
    Due.due("11: but can be undone", x.count(8), 1);
    Due.due("11: once, to what it is", x.change(0, 2, 1), true);
    Due.due("11: another has it", x.change(0, 0, 25), true);
    Due.due("11: x", Due.leaves(x, 0), "2|1 4|0|3");
    Due.due("11: y", Due.leaves(x, 1), "4 2|0|1 3");
    Due.due("11: spent", x.count(6), 8);
    Due.due("11: the bound one's last", x.change(2, 0, 25), false);
    Due.due("11: another column", x.change(2, 1, 1), true);
    Due.due("11: y, equal ones by numbers", Due.leaves(x, 1), "4|0|1 2|3");
    Due.due("11: spent", x.count(6), 16);
    Due.due("11: the value", x.row(2, 1), 1);
    x.remove(1);
    Due.due("11: the loose one's last", x.change(4, 0, 1), false);
    Due.due("11: a free once value", x.change(4, 2, 2), true);
    Due.due("11: a removed one", x.change(1, 1, 1), false);
    x.begin(-1, 0, 0);
    Due.due("11: a chosen one", x.change(2, 1, 3), false);
    Due.due("11: a chosen one's once value is free", x.change(0, 2, 3), true);
  }

  private static void changingPartial() {
    LeafSweep x = Due.told("index p partial on b;row 1 1 1;row 2 2 2;row 3 3 3;part a from 2 to 5 and not c is 9;");
    Due.due("11: part", Due.leaves(x, 0), "1 2");
    Due.due("11: another column brings it in", x.change(0, 0, 4), true);
    Due.due("11: one put", x.count(6), 2);
    Due.due("11: part", Due.leaves(x, 0), "0 1 2");
    Due.due("11: still in", x.change(0, 0, 5), true);
    Due.due("11: the two are one", x.count(6), 2);
    Due.due("11: out", x.change(1, 2, 9), true);
    Due.due("11: one taken", x.count(6), 4);
    Due.due("11: part", Due.leaves(x, 0), "0 2");
    Due.due("11: moved", x.change(0, 1, 8), true);
    Due.due("11: part", Due.leaves(x, 0), "2 0");
    Due.due("11: taken and put", x.count(6), 8);
    Due.due("11: out of it all", x.change(1, 1, 7), true);
    Due.due("11: neither", x.count(6), 8);
    Due.due("9: inserted, not in part", x.insert(1, 1, 1), 3);
    Due.due("10: removed, not in part", x.remove(3), true);
    Due.due("9: neither", x.count(6), 8);
  }

  private static void pointing() {
    LeafSweep x = Due.told(FIVE);
    int[][] wrong = {{3, 10}, {-1, 10}, {0, 11}, {0, -1}, {0, 1000}, {0, 5}};
    for (int[] w : wrong) Due.due("12: others", x.point(w[0], w[1]), -1);
    Due.due("12: the pointer", x.point(2, 30), 3);
    Due.due("12: its sort", x.pointer(3, 0), 2);
    Due.due("12: where", x.pointer(3, 1), 30);
    for (int p = 4; p < 12; p++) Due.due("12: the pointer", x.point(p % 3, 10), p);
    Due.due("12: 12 ever", x.point(0, 10), -1);
    Due.due("13: drop", x.drop(11), true);
    Due.due("12: 12 ever, gone ones too", x.point(0, 10), -1);
    Due.due("13: gone", x.pointer(11, 1), -2);
    Due.due("13: gone already", x.drop(11), false);
    Due.due("13: others", x.drop(12), false);
    Due.due("13: others", x.drop(-1), false);
    Due.due("12: nothing spent", x.count(6), 0);
    Due.due("12: ten can be undone", x.count(8), 10);
    x = Due.told(FIVE);
    x.begin(-1, 0, 0);
    Due.due("12: a chosen one's value", x.point(0, 10), -1);
    Due.due("12: a visible one's value", x.point(0, 30), 3);
    Due.due("13: one that points nowhere", x.drop(1), true);
    Due.due("13: one that has gone by the job", x.drop(2), false);
  }

  private static void beginning() {
    LeafSweep x = Due.told(FIVE);
    Due.due("14: no such index", x.begin(3, 0, 999), -1);
    Due.due("14: no such index", x.begin(-2, 0, 999), -1);
    Due.due("14: none in the bounds", x.begin(1, 8, 8), -1);
    Due.due("14: bounds the wrong way round", x.begin(1, 9, 1), -1);
    Due.due("14: none of choose", x.begin(0, 21, 999), -1);
    Due.due("14: of an index", x.begin(1, 5, 7), 3);
    Due.due("14: chosen", x.job(2), 7);
    Due.due("14: a job", x.begin(-1, 0, 0), -1);
    Due.due("14: all the int values", undone(x).begin(0, Integer.MIN_VALUE, Integer.MAX_VALUE), 4);
    Due.due("14: of all", undone(x).begin(-1, 5, 3), 4);
    Due.due("14: pass of x", x.count(6), 6);
    x = Due.told("row 7 0 0;row 7 1 0;row 8 2 0;point firm at 7;choose not b is 0;");
    Due.due("14: one that stays has it", x.begin(-1, 0, 0), 2);
    x = Due.told("row 7 0 0;row 7 1 0;row 8 2 0;point firm at 7;");
    Due.due("14: refused for the firm one", x.begin(-1, 0, 0), -1);
    Due.due("14: no job", x.job(0), -1);
    x.drop(0);
    Due.due("14: dropped", x.begin(-1, 0, 0), 3);
    Due.due("14: none at all", new LeafSweep().begin(-1, 0, 0), -1);
    x = Due.told("index p partial on a;index x plain on a;row 1 0 0;row 2 0 0;part a is 1;choose twin b;");
    Due.due("14: with an entry in it", x.begin(0, 0, 999), 1);
    Due.due("14: chosen", x.job(2), 1);
    x = Due.told("index p partial on a;index x plain on a;row 1 0 0;row 2 0 0;part a is 1;choose a is 2;");
    x.begin(-1, 0, 0);
    Due.due("14: comes to the first with any left", x.job(0), 1);
    x = Due.told("row 7 0 0;row 8 0 0;row 8 1 0;point loose at 7;point bound at 7;point loose at 8;point bound at 8;choose b is 0;");
    x.begin(-1, 0, 0);
    Due.due("14: loose, none has it", x.pointer(0, 1), -1);
    Due.due("14: bound, none has it", x.pointer(1, 1), -2);
    Due.due("14: loose, one has it", x.pointer(2, 1), 8);
    Due.due("14: bound, one has it", x.pointer(3, 1), 8);
  }

  private static LeafSweep undone(LeafSweep x) { x.undo(); return x; }

  private static void stepping() {
    LeafSweep x = Due.told(FOUR);
    Due.due("15: no job", x.step(), -1);
    x.begin(-1, 0, 0);
    int[] rows = {0, 1, 2, 2, 1, 0, -2};
    int[] spent = {5, 6, 15, 15, 16, 17, 17};
    String[] xs = {"1|2 3", "2 3", "3", "3", "3", "3", "3"};
    String[] ys = {"3 2|1|0", "3 2|1|0", "3 2|1|0", "3|1|0", "3|0", "3", "3"};
    for (int i = 0; i < 7; i++) {
      Due.due("15: step " + i, x.step(), rows[i]);
      Due.due("15: spent behind it", x.count(6), spent[i]);
      Due.due("15: x", Due.leaves(x, 0), xs[i]);
      Due.due("15: y", Due.leaves(x, 1), ys[i]);
    }
    Due.due("15: over", x.job(0), -1);
    Due.due("15: there", x.count(4), 8);
    Due.due("15: no more", x.step(), -1);
    x = Due.told(ENDS);
    x.begin(-1, 0, 0);
    Due.due("15: probing costs", x.count(6), 10);
    Due.due("15: by numbers", x.step(), 0);
    Due.due("15: by numbers", x.step(), 1);
    Due.due("15: over", x.step(), -2);
    Due.due("15: spent", x.count(6), 12);
    x = Due.told("row 1 1 1;");
    x.begin(-1, 0, 0);
    Due.due("15: without an index", x.step(), -2);
    Due.due("15: there no more", x.count(4), 0);
    x.insert(1, 1, 1);
    x.begin(-1, 0, 0);
    x.crash();
    Due.due("15: down", x.step(), -1);
  }

  private static void sideLists() {
    LeafSweep x = Due.told(FOUR);
    x.begin(-1, 0, 0);
    x.step();
    Due.due("15: a row comes", x.insert(9, 9, 9), 4);
    Due.due("15: 1 aside and 4 for y", x.count(6), 10);
    Due.due("15: y", Due.leaves(x, 1), "4 3|2|1|0");
    Due.due("15: x has it not", Due.leaves(x, 0), "1|2 3");
    Due.due("15: a row goes", x.remove(3), true);
    Due.due("15: x has it still", Due.leaves(x, 0), "1|2 3");
    Due.due("15: y has it not", Due.leaves(x, 1), "4|2|1|0");
    Due.due("15: one aside and 4 for y", x.count(6), 15);
    x.step();
    Due.due("15: a record", x.count(6), 16);
    x.step();
    Due.due("15: x, all carried out", Due.leaves(x, 0), "4");
    Due.due("15: record 1, put 2, taken 2, pass of y 2 and 3 and 3", x.count(6), 29);
    Due.due("15: nothing aside", x.job(6), 0);
    x = Due.told("index x plain on a;row 1 1 1;row 2 2 2;choose a is 1;");
    x.begin(-1, 0, 0);
    for (int i = 0; i < 19; i++) Due.due("11: aside", x.change(1, 0, 2 + (i + 1) % 2), true);
    Due.due("9: the 39th", x.insert(3, 3, 3), 2);
    Due.due("39: aside", x.job(6), 39);
    Due.due("11: two more can't be", x.change(1, 0, 2), false);
    Due.due("11: the value stays", x.row(1, 0), 3);
    Due.due("10: one more can be", x.remove(2), true);
    Due.due("9: no more can be", x.insert(4, 4, 4), -1);
    Due.due("9: it has not come", x.count(3), 3);
    Due.due("10: no more can be", x.remove(1), false);
    Due.due("11: none aside can be", x.change(1, 1, 9), true);
    Due.due("52: not free", x.free(1), false);
    Due.due("29: the last one", x.side(39), 2003 - 40000);
    Due.due("15: it is carried out", x.step(), 0);
    Due.due("15: x", Due.leaves(x, 0), "1");
    Due.due("15: where it stands", x.found(0, 3), 2);
    x = Due.told("index x plain on a;row 1 1 1;row 2 2 2;choose a is 1;");
    x.begin(-1, 0, 0);
    for (int i = 0; i < 19; i++) x.change(1, 0, 2 + (i + 1) % 2);
    Due.due("9: the 39th", x.insert(3, 3, 3), 2);
    Due.due("9: the 40th", x.insert(3, 3, 3), 3);
    Due.due("9: the 41st", x.insert(3, 3, 3), -1);
    Due.due("18: resumed", x.crash() + x.resume(), 1);
    Due.due("20: undone", x.undo(), true);
    Due.due("18: down once more", x.job(5), 1);
  }

  private static void stopping() {
    LeafSweep x = Due.told(FIVE);
    Due.due("16: no job", x.stop(), false);
    x.begin(-1, 0, 0);
    x.drop(1);
    Due.due("16: a new row", x.insert(40, 5, 9), 5);
    int spent = x.count(6);
    Due.due("16: stopped", x.stop(), true);
    Due.due("16: no job", x.job(0), -1);
    Due.due("16: the side list is carried out", Due.leaves(x, 0), "0 2|1 4|3 5");
    Due.due("16: at cost", x.count(6), spent + 4);
    Due.due("16: nobody is chosen", x.count(4), 63);
    Due.due("16: dropped since", x.pointer(1, 1), -2);
    Due.due("16: as ahead", x.pointer(2, 1), 10);
    x = Due.told(FIVE);
    x.begin(-1, 0, 0);
    Due.due("16: loose", x.pointer(1, 1), -1);
    x.step();
    Due.due("16: one is gone since", x.stop(), false);
    x.crash();
    Due.due("16: down", x.stop(), false);
    x.resume();
    x.insert(1, 1, 3);
    Due.due("16: a once value twice", x.stop(), false);
    x.change(5, 2, 8);
    Due.due("16: none is gone since", x.stop(), true);
    Due.due("16: loose", x.pointer(1, 1), 20);
    x.begin(-1, 0, 0);
    x.step();
    x.step();
    Due.due("16: a record", x.stop(), false);
    for (int r = 0; r < 4; r++) {
      x = Due.told("index x once on b;row 0 10 0;row 1 11 0;row 2 12 0;row 3 13 0;choose a is " + r + ";");
      x.begin(-1, 0, 0);
      x.insert(9, 10 + r, 9);
      Due.due("16: a once value twice, of row " + r, x.stop(), false);
      x.remove(4);
      Due.due("16: once again", x.stop(), true);
    }
    x = Due.told("row 1 1 1;point loose at 1;");
    x.begin(-1, 0, 0);
    Due.due("16: behind all", x.stop(), true);
    Due.due("16: loose", x.pointer(0, 1), 1);
  }

  private static void crashing() {
    LeafSweep x = Due.told(FOUR);
    Due.due("17: no job", x.crash(), -1);
    Due.due("18: no job", x.resume(), -1);
    x.begin(-1, 0, 0);
    Due.due("18: not down", x.resume(), -1);
    x.step();
    Due.due("17: gone since", x.crash(), 1);
    Due.due("17: x as at the stand", Due.leaves(x, 0), "0 1|2 3");
    Due.due("17: none since", x.job(3), 0);
    Due.due("17: nothing can be undone", x.count(8), 0);
    Due.due("17: down already", x.crash(), -1);
    Due.due("17: no cost", x.count(6), 5);
    Due.due("18: left", x.resume(), 3);
    Due.due("18: pass again", x.count(6), 10);
    Due.due("18: it can be undone", x.count(8), 1);
    x.step();
    x.step();
    Due.due("17: none behind a record", x.crash(), 0);
    Due.due("17: x as at the record", Due.leaves(x, 0), "2 3");
    Due.due("17: records stay", x.job(4), 1);
    Due.due("18: left", x.resume(), 1);
    Due.due("18: pass for one", x.count(6), 13);
    x.step();
    x.step();
    Due.due("17: in y", x.crash(), 1);
    Due.due("17: y as when the job came", Due.leaves(x, 1), "3 2|1|0");
    Due.due("17: x as it was", Due.leaves(x, 0), "3");
    x.resume();
    for (int i = 0; i < 3; i++) x.step();
    Due.due("17: behind all", x.crash(), 0);
    Due.due("39: down", x.job(5), 1);
    int spent = x.count(6);
    Due.due("18: behind all", x.resume(), 0);
    Due.due("18: at no cost", x.count(6), spent);
    Due.due("15: over", x.step(), -2);
    x = Due.told(ENDS);
    x.begin(-1, 0, 0);
    x.insert(500, 0, 0);
    x.crash();
    Due.due("17: the side list stays", x.job(6), 1);
    Due.due("18: left", x.resume(), 2);
    Due.due("18: the way as it was", x.count(6), 21);
    x = Due.told("page 2;batch 2;index x plain on a;row 1 0 0;row 2 0 0;row 3 0 0;choose a from 1 to 2;");
    x.begin(-1, 0, 0);
    x.step();
    x.crash();
    x.resume();
    x.step();
    x.step();
    Due.due("40: gone, those that a crash brought back once", x.record(0, 1), 2);
  }

  private static void packing() {
    LeafSweep x = Due.told("page 4;batch 2;index x plain on a;index y plain on b;" + upwards(9));
    Due.due("19: x", Due.leaves(x, 0), "0 1 2|3 4 5|6 7 8");
    Due.due("19: nothing to do", x.pack(0), 0);
    Due.due("19: it costs all the same", x.count(6), 3);
    for (int r : new int[] {1, 2, 4, 5, 7}) x.remove(r);
    Due.due("19: x", Due.leaves(x, 0), "0|3|6 8");
    int spent = x.count(6);
    Due.due("19: packed", x.pack(0), 2);
    Due.due("19: x", Due.leaves(x, 0), "0 3 6 8");
    Due.due("19: cost", x.count(6), spent + 3);
    Due.due("19: others", x.pack(2), -1);
    Due.due("19: others", x.pack(-1), -1);
    x = Due.told("page 4;index x plain on a;index y plain on b;" + upwards(17));
    for (int r : new int[] {0, 4, 7, 8, 13, 14}) x.remove(r);
    Due.due("19: x", Due.leaves(x, 0), "1 2|3 5|6|9 10 11|12|15 16");
    Due.due("19: from the first on", x.pack(0), 3);
    Due.due("19: x", Due.leaves(x, 0), "1 2 3 5|6 9 10 11|12 15 16");
    x.begin(0, 1, 6);
    Due.due("19: the job is at it", x.pack(0), -1);
    Due.due("19: not at it", x.pack(1) >= 0, true);
    x.crash();
    Due.due("19: down, at it", x.pack(0), -1);
    Due.due("19: down, not at it", x.pack(1), 0);
    x = Due.told("index x plain on a;");
    Due.due("19: no leaf", x.pack(0), 0);
    Due.due("19: no cost", x.count(6), 0);
  }

  private static void undoing() {
    LeafSweep x = Due.told(FIVE);
    Due.due("20: nothing", x.undo(), false);
    for (int i = 0; i < 18; i++) x.insert(i, i, 10 + i);
    Due.due("20: the last 16", x.count(8), 16);
    Due.due("20: refused ones do not count", x.insert(0, 0, 10), -1);
    Due.due("20: still 16", x.count(8), 16);
    for (int i = 15; i >= 0; i--) {
      Due.due("20: undo", x.undo(), true);
      Due.due("20: left", x.count(8), i);
      Due.due("20: rows", x.count(3), 7 + i);
    }
    Due.due("20: no more", x.undo(), false);
    Due.due("20: the number comes again", x.insert(7, 7, 77), 7);
    x = Due.told(FIVE);
    x.open(0, 0);
    x.insert(1, 1, 9);
    Due.due("24: fetch", x.fetch(), 5);
    x.undo();
    Due.due("20: the cursor stays", x.fetch(), 0);
  }

  private static void undoingAll() {
    LeafSweep x = Due.told(FIVE);
    String[] ahead = new String[16];
    for (int i = 0; i < 16; i++) {
      ahead[i] = Due.sight(x);
      Due.due("20: done " + i, done(x, i), true);
      Due.due("20: it did something", Due.sight(x).equals(ahead[i]), i == 5);
    }
    for (int i = 15; i >= 0; i--) {
      Due.due("20: undo", x.undo(), true);
      Due.due("20: as ahead of " + i, Due.sight(x), ahead[i]);
    }
  }

  private static boolean done(LeafSweep x, int i) {
    switch (i) {
      case 0: return x.insert(50, 50, 50) == 5;
      case 1: return x.point(1, 50) == 3;
      case 2: return x.change(5, 0, 50) && x.undo() && x.change(5, 1, 51);
      case 3: return x.begin(-1, 0, 0) == 4;
      case 4: return x.drop(1);
      case 5: return x.change(3, 1, 1);
      case 6: return x.stop();
      case 7: return x.remove(5);
      case 8: return x.pack(1) >= 0;
      case 9: return x.begin(0, 10, 10) == 2;
      case 10: return x.change(4, 0, 21);
      case 11: return x.step() == 0;
      case 12: return x.step() == 2;
      case 13: return x.step() >= 0 && x.undo() && x.step() >= 0;
      case 14: return x.insert(60, 60, 60) == 6;
      default: return x.change(6, 2, 61);
    }
  }

  private static void judging() {
    LeafSweep x = Due.told(FOUR);
    Due.due("21: others", x.judged(3), -2);
    Due.due("21: others", x.judged(-1), -2);
    Due.due("21: no work", x.judged(0), -1);
    Due.due("21: visible", x.judged(1), 4);
    Due.due("21: spent", x.judged(2), 0);
    x.insert(5, 5, 5);
    Due.work(x, "begin;step 7;");
    Due.due("21: all can be", x.judged(0), -1);
    Due.due("21: from the table as told", x.judged(1), 1);
    Due.due("21: spent", x.judged(2), 17);
    Due.work(x, "begin;step 8;insert 1 1 1;");
    Due.due("21: one step too many", x.judged(0), 1);
    Due.due("21: the others of it are done", x.judged(1), 2);
    Due.due("21: spent, and 2 in each", x.judged(2), 21);
    Due.work(x, "step 1;crash;resume;stop;remove 4;change 9 a 1;begin;begin;pack x;crash;crash;stop;step 1;resume;resume;stop;");
    Due.due("21: the first one", x.judged(0), 0);
    Due.due("21: left out", x.judged(1), 4);
    Due.due("21: begun, resumed", x.judged(2), 10);
    String[][] can = {{"crash;", "0"}, {"begin;crash;", "-1"}, {"begin;crash;crash;", "2"}, {"resume;", "0"}, {"begin;resume;", "1"}, {"begin;crash;resume;stop;", "-1"}, {"stop;", "0"}, {"begin;step 1;stop;", "2"},
      {"begin;begin;", "1"}, {"begin;pack x;", "1"}, {"begin;pack y;", "-1"}, {"begin;step 3;pack x;pack y;", "3"}, {"remove 3;remove 3;", "1"}, {"remove 29;", "0"}, {"change 0 b 5;", "-1"}, {"begin;change 0 b 5;", "1"},
      {"begin;crash;insert 1 1 1;step 1;", "3"}, {"begin;step 3;step 4;step 1;", "3"}};
    for (String[] c : can) {
      Due.due("21: work", Due.work(x, c[0]), 0);
      Due.due("21: " + c[0], x.judged(0), Integer.parseInt(c[1]));
    }
    x = Due.told("index o once on a;row 1 1 1;point loose at 1;");
    Due.work(x, "insert 1 2 3;insert 2 2 2;change 1 a 1;change 0 a 3;remove 0;insert 1 1 1;");
    Due.due("21: once", x.judged(0), 0);
    Due.due("21: visible", x.judged(1), 2);
    Due.due("21: put, taken, put", x.judged(2), 6);
    Due.due("21: nothing is changed by it", x.count(3), 1);
  }
}
