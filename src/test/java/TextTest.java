/** Promises 1 to 4: a new object, the tape, and the two languages with their faults. */
public final class TextTest {
  public static void main(String[] args) {
    aNewObject();
    theTape();
    tableFaults();
    manyFaults();
    tableIsTaken();
    aFaultLeavesAll();
    workFaults();
    Due.end();
  }

  private static void aNewObject() {
    LeafSweep x = new LeafSweep();
    int[] counts = {4, 2, 0, 0, 0, 0, 0, 0, 0, 0, -1};
    for (int w = 0; w < counts.length; w++) Due.due("1: count(" + w + ")", x.count(w), counts[w]);
    Due.due("1: ways()", x.ways(), 0);
    Due.due("1: hinders()", x.hinders(), 0);
    Due.due("1: table() of nothing", x.table(), 0);
    Due.due("1: work() of nothing", x.work(), 0);
    Due.due("1: NONE", LeafSweep.NONE, -1);
  }

  private static void theTape() {
    LeafSweep x = new LeafSweep();
    Due.due("2: feed of no sign", x.feed(0L, 0x01090B1F7F80FF00L, -1L), 0);
    Due.due("2: feed of the edges", x.feed(0x0A207E0000000000L, 0L, 0x000000000000007EL), 4);
    Due.due("2: count(9)", x.count(9), 4);
    Due.due("2: the first one wrong is the 126 behind 10 and 32", x.table(), 1 + 16 * 2);
    Due.due("2: it is taken", x.count(9), 0);
    Due.due("2: highest first, a ahead of b ahead of c", x.feed(0x7061670000000000L, 0x0000000000006520L, 0x3900000000000000L), 6);
    Due.due("2: page 9", x.table(), 4 + 16 * 5);
    for (int i = 1; i <= 41; i++) Due.due("2: feed " + i, x.feed(0x2020202020202020L, 0x2020202020202020L, 0x2020202020202020L), 24 * i);
    Due.due("2: up to 1,000", x.feed(0x2020202020202020L, 0x2020202020202078L, 0x7070707070707070L), 1000);
    Due.due("2: no more", x.feed(0x2020202020202020L, 0L, 0L), 1000);
    Due.due("2: what is beyond is left out", x.table(), 1 + 16 * 999);
    Due.due("2: empty again", x.feed(0L, 0L, 0x20L), 1);
  }

  private static final Object[][] TABLE_FAULTS = {
    {"page 1;", 4, 5}, {"page 9;", 4, 5}, {"page x;", 1, 5}, {"page 2", 1, 6}, {"page 2 ", 1, 7}, {"page 2\n\n ", 1, 9}, {"page;", 1, 4},
    {"page 12345;", 1, 5}, {"page 0002x", 1, 9}, {"page 2x", 1, 6}, {"pagepagep", 1, 0}, {"Page 2;", 1, 0}, {" ;", 1, 1}, {"12", 1, 0}, {"insert 1 1 1;", 1, 0},
    {"page 2;page 3;", 3, 7}, {"page 2;;", 1, 7}, {"page 2.", 1, 6}, {"batch 0;", 4, 6}, {"batch 9;", 4, 6}, {"batch 8;batch", 3, 8},
    {"index a plain on a;", 1, 6}, {"index or plain on a;", 1, 6}, {"index 5", 1, 6}, {"index ;", 1, 6}, {"index abcdefghi", 1, 6}, {"index", 1, 5},
    {"index x firm on a;", 1, 8}, {"index x plain at a;", 1, 14}, {"index x plain on x;", 1, 17}, {"index x plain on a b", 1, 19}, {"index x plain on 1", 1, 17},
    {"index x plain on a;index x", 3, 25}, {"index x plain on a;index y down on b;index x once on c;", 3, 43},
    {"row 1 2 3;index", 1, 10}, {"row 1 2;", 1, 7}, {"row 1 2 1000;", 4, 8}, {"row 1000 2 3;", 4, 4}, {"row 1 2 x", 1, 8}, {"row 1 2 3 4", 1, 10}, {"row 12345 2 3;", 1, 4},
    {"index o once on a;row 7 1 1;row 7", 3, 32}, {"index o once on b;row 7 1 1;row 7 1", 3, 34}, {"index o once on c;row 7 1 1;row 7 2 1", 3, 36},
    {"index o once on a;row 7 1 1;row 1000", 4, 32}, {"index o once on a;row 7 1 1;row 007", 3, 32},
    {"point firm at 1", 2, 14}, {"row 1 2 3;point firm at 2;", 2, 24}, {"row 1 2 3;point firm at 1000;", 2, 24}, {"row 1 2 3;point firm at x", 1, 24}, {"row 1 2 3;point firm 1", 1, 21},
    {"point plain", 1, 6}, {"row 1 2 3;point firm at 12345;", 1, 24}, {"row 1 2 3;point bound at 1;row 2 2 2;point loose at 3", 2, 52},
    {"choose ;", 1, 7}, {"choose a;", 1, 8}, {"choose a is 1000;", 4, 12}, {"choose a is b", 1, 12}, {"choose a from 1000 to 1", 4, 14}, {"choose a from 1 to 1000", 4, 19},
    {"choose a from 1 and", 1, 16}, {"choose a over 1", 1, 14}, {"choose every 1;", 4, 13}, {"choose every 10;", 4, 13}, {"choose every a", 1, 13}, {"choose twin 1", 1, 12},
    {"choose pointed a", 1, 15}, {"choose not not", 1, 11}, {"choose not;", 1, 10}, {"choose a is 1 b", 1, 14}, {"choose a is 1 or;", 1, 16}, {"choose a is 1 and or", 1, 18},
    {"choose is 1", 1, 7}, {"choose a is 1", 1, 13}, {"choose x", 1, 7}, {"choose a is 1;choose", 3, 14},
    {"part pointed;", 1, 5}, {"part twin a;", 1, 5}, {"part not twin a;", 1, 9}, {"part not pointed", 1, 9}, {"part a is 1 or pointed", 1, 15}, {"part a is 1;part", 3, 12},
  };

  private static void tableFaults() {
    for (Object[] f : TABLE_FAULTS) {
      LeafSweep x = new LeafSweep();
      String text = (String) f[0];
      int fault = (Integer) f[1] + 16 * (Integer) f[2];
      Due.due("3: table() of '" + text + "'", Due.table(x, text), fault);
      if ((Integer) f[2] < text.length()) Due.due("3: the first one wrong of '" + text + " Q", Due.table(x, text + " Q"), fault);
      Due.due("3: taken", x.count(9), 0);
    }
    String[] fine = {"", " \n ", "page 2;", "page 8 ; batch 1 ;", "page0008;batch0001;", "index longname plain on a;", "choose a from 5 to 3;",
      "choose not every 2 and not b over b or twin c and pointed or a is 0 or c from 0 to 999;", "part not every 9 and a over a or b is 999;",
      "index x plain on a;index y down on a;index z once on a;index w partial on a;", "index o once on a;row 7 1 1;row 8 1 1;",
      "row 999 0 999;point firm at 999;point loose at 999;point bound at 999;", "choose a is1and b is2;"};
    for (String text : fine) Due.due("3: table() of '" + text + "'", Due.table(new LeafSweep(), text), 0);
  }

  private static void manyFaults() {
    String four = "index n plain on a;index m plain on a;index o plain on a;index p plain on a;";
    Due.due("3: a fifth index", Due.table(new LeafSweep(), four + "index"), 5 + 16 * four.length());
    Due.due("3: a fifth index behind a row", Due.table(new LeafSweep(), four + "row 1 1 1;index"), 1 + 16 * (four.length() + 10));
    String rows = "row 1 1 1;".repeat(20);
    Due.due("3: 20 rows", Due.table(new LeafSweep(), rows), 0);
    Due.due("3: a 21st row", Due.table(new LeafSweep(), rows + " row"), 5 + 16 * 201);
    String points = "row 1 1 1;" + "point firm at 1;".repeat(8);
    Due.due("3: 8 points", Due.table(new LeafSweep(), points), 0);
    Due.due("3: a ninth point", Due.table(new LeafSweep(), points + "point"), 5 + 16 * points.length());
    String limits = "choose " + "pointed or ".repeat(12);
    Due.due("3: 12 limits", Due.table(new LeafSweep(), limits.substring(0, limits.length() - 4) + ";"), 0);
    Due.due("3: a 13th limit", Due.table(new LeafSweep(), limits + "a"), 5 + 16 * limits.length());
    Due.due("3: a 13th limit with not", Due.table(new LeafSweep(), limits + "not a"), 5 + 16 * limits.length());
    Due.due("3: a 13th limit that is none", Due.table(new LeafSweep(), limits + "page"), 1 + 16 * limits.length());
    Due.due("3: nothing behind or", Due.table(new LeafSweep(), limits), 1 + 16 * limits.length());
    String part = "part " + "not every 2 and ".repeat(12);
    Due.due("3: a 13th limit of part", Due.table(new LeafSweep(), part + "every"), 5 + 16 * part.length());
    Due.due("3: a 13th limit that can't stand in part", Due.table(new LeafSweep(), part + "twin"), 1 + 16 * part.length());
    Due.due("3: each where has 12", Due.table(new LeafSweep(), "part " + "every 2 or ".repeat(11) + "every 2;choose " + "every 2 or ".repeat(11) + "every 2;"), 0);
  }

  private static void tableIsTaken() {
    LeafSweep x = Due.told("page 3;batch 5;row 1 2 3;row 4 5 6;point loose at 4;");
    Due.due("3: page", x.count(0), 3);
    Due.due("3: batch", x.count(1), 5);
    Due.due("3: rows", x.count(3), 2);
    Due.due("3: points", x.count(5), 1);
    x.insert(1, 1, 1);
    x.begin(-1, 0, 0);
    Due.work(x, "begin;");
    Due.due("3: a new table", Due.table(x, "index x plain on a;row 5 5 5;"), 0);
    Due.due("3: page as at first", x.count(0), 4);
    Due.due("3: batch as at first", x.count(1), 2);
    Due.due("3: rows told alone", x.count(3), 1);
    Due.due("3: no points", x.count(5), 0);
    Due.due("3: nothing spent", x.count(6), 0);
    Due.due("3: no work", x.count(7), 0);
    Due.due("3: nothing can be undone", x.count(8), 0);
    Due.due("3: no job", x.job(0), -1);
    x.open(0, 0);
    Due.table(x, "index x plain on a;row 5 5 5;");
    Due.due("3: no cursor", x.fetch(), -1);
    Due.due("3: parts told behind the rows count, too", Due.table(x, "index x partial on a;row 1 1 1;row 2 2 2;part a is 2;"), 0);
    Due.due("3: leaves", Due.leaves(x, 0), "1");
  }

  private static void aFaultLeavesAll() {
    LeafSweep x = Due.told("page 2;index x down on a;row 1 2 3;row 4 5 6;choose a is 1;");
    x.insert(9, 9, 9);
    Due.due("3: work", Due.work(x, "begin;step 1;"), 0);
    x.open(0, 999);
    x.fetch();
    x.begin(-1, 0, 0);
    String ahead = Due.sight(x);
    Due.due("3: fault", Due.table(x, "page 3;index y plain on b;row 7 7 7;choose b is 7 or"), 1 + 16 * 52);
    Due.due("3: all stays", Due.sight(x), ahead);
    Due.due("3: the work stays", x.count(7), 2);
    Due.due("3: what can be undone stays", x.count(8), 2);
    Due.due("3: the cursor stays", x.fetch(), 1);
    Due.due("3: the choice stays", x.fits(1, 0), false);
    Due.due("4: fault", Due.work(x, "stop;stop"), 1 + 16 * 9);
    Due.due("4: the work stays", x.count(7), 2);
    Due.due("4: judged as ahead", x.judged(0), -1);
    Due.due("4: all stays", Due.sight(x), ahead);
    Due.due("4: a work is taken", Due.work(x, "stop;"), 0);
    Due.due("4: lines", x.count(7), 1);
    Due.due("4: nothing else goes", Due.sight(x), ahead);
    Due.due("4: nothing else is undone", x.count(8), 2);
    Due.due("4: an empty one", Due.work(x, ""), 0);
    Due.due("4: no lines", x.count(7), 0);
  }

  private static final Object[][] WORK_FAULTS = {
    {"insert 1 2 1000;", 4, 11}, {"insert 1 2;", 1, 10}, {"insert 1000 2 3;", 4, 7}, {"insert a", 1, 7}, {"remove 30;", 4, 7}, {"remove;", 1, 6}, {"change 30 a 1;", 4, 7},
    {"change 0 d", 1, 9}, {"change 0 x", 1, 9}, {"change 0 a 1000;", 4, 11}, {"change 0 a;", 1, 10}, {"begin 1", 1, 6}, {"step 0;", 4, 5}, {"step 100;", 4, 5}, {"step;", 1, 4},
    {"pack y;", 2, 5}, {"pack a;", 1, 5}, {"pack 1", 1, 5}, {"pack;", 1, 4}, {"pack x y", 1, 7}, {"page 2;", 1, 0}, {"stop", 1, 4}, {"crash ", 1, 6}, {"resume resume", 1, 7},
    {"beginnings;", 1, 0}, {";", 1, 0}, {"7", 1, 0}, {"row 1 1 1;", 1, 0},
  };

  private static void workFaults() {
    for (Object[] f : WORK_FAULTS) {
      LeafSweep x = Due.told("index x plain on a;row 1 1 1;");
      String text = (String) f[0];
      int fault = (Integer) f[1] + 16 * (Integer) f[2];
      Due.due("4: work() of '" + text + "'", Due.work(x, text), fault);
      if ((Integer) f[2] < text.length()) Due.due("4: the first one wrong of '" + text + " Q", Due.work(x, text + " Q"), fault);
      Due.due("4: taken", x.count(9), 0);
    }
    LeafSweep x = Due.told("index x plain on a;row 1 1 1;");
    Due.due("4: all of them", Due.work(x, "insert 0 999 5;remove 0;remove 29;change 29 c 999;change 0a0;begin;step 1;step 99;stop;crash;resume;pack x;"), 0);
    Due.due("4: lines", x.count(7), 12);
    String forty = "begin;".repeat(40);
    Due.due("4: 40 lines", Due.work(x, forty), 0);
    Due.due("4: lines", x.count(7), 40);
    Due.due("4: a 41st", Due.work(x, forty + "\nbegin"), 5 + 16 * 241);
    Due.due("4: a 41st that is none", Due.work(x, forty + "page"), 1 + 16 * 240);
    Due.due("4: no index at first", Due.work(new LeafSweep(), "pack x;"), 2 + 16 * 5);
  }
}
