/** Promises 48 to 54: references looked at in bulk and singly, what hinders, and the counts. */
public final class PointersTest {
  private static final String ROWS = "row 5 0 0;row 10 0 0;row 20 0 0;row 40 0 0;point firm at 20;point firm at 10;point firm at 20;point loose at 5;point bound at 40;";

  public static void main(String[] args) {
    checking();
    hindering();
    fitting();
    needing();
    freeing();
    would();
    counting();
    Due.end();
  }

  private static void checking() {
    LeafSweep x = Due.told(ROWS);
    Due.due("48: bulk", x.check(0), 5);
    Due.due("48: singly, no index", x.check(1), 4 * 3);
    Due.due("48: others", x.check(2), -1);
    Due.due("48: others", x.check(-1), -1);
    x.drop(0);
    Due.due("48: bulk without a dropped one", x.check(0), 4);
    Due.due("48: singly without a dropped one", x.check(1), 4 * 2);
    Due.due("48: a partial one does not count", Due.told("index p partial on a;" + ROWS).check(1), 12);
    Due.due("48: one on b does not count", Due.told("index p plain on b;" + ROWS).check(1), 12);
    Due.due("48: height 0", Due.told("index x plain on a;" + ROWS).check(1), 3);
    Due.due("48: the first one on a", Due.told("page 2;index q down on b;index p partial on a;index x down on a;" + ROWS).check(1), 9);
    x = Due.told("choose a over b and a from 20 to 40;" + ROWS);
    Due.due("48: ends with the pointers", x.check(0), 3);
    Due.due("48: those that would be chosen", x.check(1), 6);
    x = Due.told("choose a is 5;" + ROWS);
    Due.due("48: ends with the rows", x.check(0), 1);
    x.begin(-1, 0, 0);
    Due.due("48: of those chosen", x.check(0), 1);
    Due.due("48: of those chosen", x.check(1), 3);
    x = Due.told("choose every 2;" + ROWS);
    x.drop(0);
    x.drop(2);
    x.begin(0, 0, 0);
    Due.due("48: bulk", x.check(0), 2);
    Due.due("48: both upwards", Due.told("choose a is 20;row 30 0 0;row 20 0 0;row 10 0 0;point firm at 30;point firm at 10;").check(0), 2);
    Due.due("48: no rows", Due.told("choose a is 9;" + ROWS).check(0), 0);
    Due.due("48: no rows", Due.told("choose a is 9;" + ROWS).check(1), 0);
    Due.due("48: nothing", new LeafSweep().check(0), 0);
  }

  private static void hindering() {
    Due.due("49: all firm ones", Due.told(ROWS).hinders(), 7);
    Due.due("49: those of 20", Due.told("choose a is 20 or a is 5;" + ROWS).hinders(), 5);
    Due.due("49: one stays that has it", Due.told("choose every 2;" + ROWS + "row 20 0 0;row 20 1 1;").hinders(), 0);
    LeafSweep x = Due.told("choose twin b;" + ROWS);
    Due.due("49: twins", x.hinders(), 7);
    x.change(1, 1, 1);
    Due.due("49: one is no twin now", x.hinders(), 5);
    x = Due.told("choose b is 0;row 5 0 0;row 6 1 0;row 7 0 0;row 7 1 0;point firm at 7;point loose at 5;");
    Due.due("49: none", x.hinders(), 0);
    Due.due("49: begun", x.begin(-1, 0, 0), 2);
    Due.due("49: of those visible now, none", x.hinders(), 0);
    x.change(1, 1, 0);
    Due.due("49: another one", x.hinders(), 0);
    x.change(3, 1, 0);
    Due.due("49: the one that has it", x.hinders(), 1);
    x.drop(0);
    Due.due("49: dropped", x.hinders(), 0);
  }

  private static void fitting() {
    LeafSweep x = Due.told("row 1 2 3;row 2 2 2;row 3 5 2;row 4 4 9;row 5 0 1;row 6 1 0;"
        + "choose a from 2 to 3 and not b is 5 or c over b and not every 2 or a is 1 and every 4;part not a over c or every 5;");
    boolean[] choose = {true, true, false, true, false, false};
    boolean[] part = {true, true, false, true, false, true};
    for (int r = 0; r < 6; r++) {
      Due.due("50: fits(" + r + ", 0)", x.fits(r, 0), choose[r]);
      Due.due("50: fits(" + r + ", 1)", x.fits(r, 1), part[r]);
      Due.due("50: others", x.fits(r, 2), false);
      Due.due("50: others", x.fits(r, -1), false);
    }
    Due.due("50: none such", x.fits(6, 0), false);
    Due.due("50: none such", x.fits(-1, 1), false);
    Due.due("50: none such", x.fits(32, 1), false);
    x = Due.told("row 1 1 1;row 2 2 2;");
    Due.due("50: without choose it is so", x.fits(0, 0), true);
    Due.due("50: without part it is so", x.fits(1, 1), true);
    x.remove(0);
    Due.due("50: not visible", x.fits(0, 1), false);
    x.begin(-1, 0, 0);
    Due.due("50: chosen", x.fits(1, 0), false);
    x = Due.told("row 1 1 1;row 2 1 2;row 3 3 3;point loose at 3;point firm at 1;point bound at 2;choose pointed and not twin b;");
    boolean[] first = {false, false, true};
    for (int r = 0; r < 3; r++) Due.due("50: fits(" + r + ", 0)", x.fits(r, 0), first[r]);
    x.change(1, 1, 3);
    boolean[] second = {true, false, false};
    for (int r = 0; r < 3; r++) Due.due("50: then fits(" + r + ", 0)", x.fits(r, 0), second[r]);
    x.remove(2);
    Due.due("50: no twin now", x.fits(1, 0), true);
    x.drop(2);
    Due.due("50: not pointed at now", x.fits(1, 0), false);
    x = Due.told("row 1 1 1;row 2 1 2;row 3 1 3;choose twin b and a is 1;");
    Due.due("14: twins as ahead of it", x.begin(-1, 0, 0), 1);
    Due.due("50: twins that are visible", x.fits(1, 1), true);
    x = Due.told("row 999 0 0;choose a from 999 to 0 or a over a or b over a;");
    Due.due("50: nothing of these", x.fits(0, 0), false);
    x = Due.told("row 5 0 0;choose a from 5 to 5;part a from 0 to 4 or a from 6 to 999;");
    Due.due("50: the bounds are in it", x.fits(0, 0), true);
    Due.due("50: beyond the bounds", x.fits(0, 1), false);
  }

  private static void needing() {
    LeafSweep x = Due.told("choose b is 1;row 5 0 0;row 5 1 0;row 6 1 0;point firm at 5;point loose at 6;point bound at 6;");
    Due.due("51: both", x.needs(0), 3);
    Due.due("51: one", x.needs(1), 4);
    Due.due("51: others", x.needs(3), -1);
    Due.due("51: others", x.needs(-1), -1);
    Due.due("51: others", x.needs(Integer.MAX_VALUE), -1);
    x.begin(-1, 0, 0);
    Due.due("51: visible ones", x.needs(0), 1);
    Due.due("51: nowhere", x.needs(1), 0);
    Due.due("51: gone", x.needs(2), 0);
    x.insert(5, 5, 5);
    Due.due("51: one more", x.needs(0), 9);
  }

  private static void freeing() {
    LeafSweep x = Due.told("choose b is 1;row 5 0 0;row 5 1 0;row 6 1 0;row 7 0 0;point firm at 5;point loose at 6;point firm at 7;");
    boolean[] due = {true, true, true, false};
    for (int r = 0; r < 4; r++) Due.due("52: free(" + r + ")", x.free(r), due[r]);
    Due.due("52: others", x.free(4), false);
    Due.due("52: others", x.free(-1), false);
    Due.due("52: others", x.free(Integer.MIN_VALUE), false);
    x.begin(-1, 0, 0);
    Due.due("52: the other one is chosen", x.free(0), false);
    Due.due("52: it is chosen", x.free(1), false);
    x.insert(5, 5, 5);
    Due.due("52: another one", x.free(0), true);
    x.remove(0);
    Due.due("52: removed", x.free(0), false);
    Due.due("52: nothing by the asking", x.count(4), 8 + 16);
  }

  private static void would() {
    LeafSweep x = Due.told("index x once on a;index y plain on b;index z once on c;index w once on a;choose a is 1;row 1 1 1;row 2 2 2;");
    Due.due("53: two on a", x.would(1, 5, 5), 9);
    Due.due("53: on c", x.would(5, 1, 2), 4);
    Due.due("53: all", x.would(1, 1, 2), 13);
    Due.due("53: none", x.would(5, 1, 5), 0);
    int[][] others = {{-1, 0, 0}, {1000, 0, 0}, {0, -1, 0}, {0, 1000, 0}, {0, 0, -1}, {0, 0, 1000}};
    for (int[] o : others) Due.due("53: others", x.would(o[0], o[1], o[2]), -1);
    x.begin(-1, 0, 0);
    Due.due("53: a chosen one's", x.would(1, 1, 1), 0);
    for (int i = 2; i < 30; i++) x.insert(100 + i, i, 100 + i);
    Due.due("53: 30 have come", x.would(500, 500, 500), 15);
    Due.due("53: others", x.would(500, 500, 1000), -1);
  }

  private static void counting() {
    LeafSweep x = Due.told("page 3;batch 7;index x plain on a;index y plain on b;row 1 1 1;row 2 2 2;row 3 3 3;point firm at 1;point loose at 2;choose a is 2;");
    Due.work(x, "begin;step 1;step 2;");
    Due.feed(x, "row");
    x.insert(4, 4, 4);
    x.remove(2);
    x.begin(-1, 0, 0);
    int[] due = {3, 7, 2, 4, 1 + 8, 2, 2 * 2 + 2 * 3 + 3, 3, 3, 3};
    for (int w = 0; w < 10; w++) Due.due("54: count(" + w + ")", x.count(w), due[w]);
    Due.due("54: others", x.count(10), -1);
    Due.due("54: others", x.count(-1), -1);
    Due.due("54: others", x.count(Integer.MIN_VALUE), -1);
    x = Due.told("page 4;index x plain on a;" + HandTest.upwards(4));
    x.insert(4, 4, 4);
    Due.due("54: spent, height 0", x.count(6), 2);
    x.insert(5, 5, 5);
    Due.due("54: spent, height 1", x.count(6), 5);
    x.pack(0);
    Due.due("54: spent, two leaves", x.count(6), 7);
  }
}
