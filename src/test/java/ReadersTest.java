import java.util.NoSuchElementException;

/** Promises 22 to 32: what is found, fetched and ranked, and how the indexes stand while a job goes on. */
public final class ReadersTest {
  private static final String SIX = "page 2;batch 2;index x plain on a;index y down on b;index p partial on a;"
      + "row 10 5 1;row 20 5 2;row 10 7 3;row 30 1 4;row 20 9 5;row 10 5 6;choose a is 20;part b over c;";

  public static void main(String[] args) {
    finding();
    fetching();
    fetchingWhatGoes();
    ranking();
    skipping();
    staleAndMissing();
    sides();
    splitting();
    filling();
    Due.end();
  }

  private static void finding() {
    LeafSweep x = Due.told(SIX);
    Due.due("22: three", x.found(0, 10), 1 + 4 + 32);
    Due.due("22: down", x.found(1, 5), 1 + 2 + 32);
    Due.due("22: those that belong", x.found(2, 10), 1 + 4);
    Due.due("22: none", x.found(0, 11), 0);
    Due.due("22: any key", x.found(0, Integer.MIN_VALUE), 0);
    Due.due("22: any key", x.found(1, Integer.MAX_VALUE), 0);
    Due.due("22: any key", x.found(1, -1), 0);
    Due.due("22: others", x.found(3, 10), -1);
    Due.due("22: others", x.found(-1, 10), -1);
    x.begin(-1, 0, 0);
    Due.due("22: chosen ones are not found", x.found(0, 20), 0);
    x.insert(20, 3, 1);
    Due.due("22: found though it waits aside", x.found(0, 20), 64);
    x.change(6, 0, 21);
    Due.due("22: found as it is now", x.found(0, 21), 64);
    Due.due("22: not as it was", x.found(0, 20), 0);
    x.change(6, 1, 0);
    Due.due("22: belongs no more", x.found(2, 21), 0);
    x.remove(6);
    Due.due("22: removed", x.found(0, 21), 0);
  }

  private static String fetches(LeafSweep x) {
    StringBuilder s = new StringBuilder();
    for (int r = x.fetch(); r != -1; r = x.fetch()) s.append(r).append(' ');
    return s.toString();
  }

  private static void fetching() {
    LeafSweep x = Due.told(SIX);
    Due.due("24: no cursor", x.fetch(), -1);
    Due.due("23: others", x.open(3, 0), false);
    Due.due("23: others", x.open(-1, 0), false);
    Due.due("24: still none", x.fetch(), -1);
    Due.due("23: open", x.open(0, 0), true);
    Due.due("24: by order", fetches(x), "0 2 5 1 4 3 ");
    Due.due("24: none is left", x.fetch(), -1);
    x.open(0, 11);
    Due.due("24: not ahead of the key", fetches(x), "1 4 3 ");
    x.open(0, 20);
    Due.due("24: by values alone", fetches(x), "1 4 3 ");
    x.open(0, Integer.MIN_VALUE);
    Due.due("24: any key", x.fetch(), 0);
    x.open(0, Integer.MAX_VALUE);
    Due.due("24: any key", x.fetch(), -1);
    x.open(1, Integer.MAX_VALUE);
    Due.due("24: down", fetches(x), "4 2 0 1 5 3 ");
    x.open(1, 5);
    Due.due("24: down from 5", fetches(x), "0 1 5 3 ");
    x.open(1, Integer.MIN_VALUE);
    Due.due("24: down from below", x.fetch(), -1);
    x.open(2, 0);
    Due.due("24: those that belong", fetches(x), "0 2 1 4 ");
    x.open(0, 0);
    x.fetch();
    Due.due("23: refused", x.open(4, 0), false);
    Due.due("23: it stays", x.fetch(), 2);
    x.open(0, 0);
    Due.due("23: opened anew", x.fetch(), 0);
  }

  private static void fetchingWhatGoes() {
    LeafSweep x = Due.told(SIX);
    x.open(0, 0);
    x.fetch();
    x.fetch();
    x.remove(5);
    x.begin(-1, 0, 0);
    Due.due("24: chosen and removed ones are passed by", x.fetch(), 3);
    Due.due("24: none is left", x.fetch(), -1);
    x.insert(40, 1, 1);
    Due.due("24: it stays, one comes behind it", x.fetch(), 6);
    x.insert(40, 1, 1);
    x.insert(39, 1, 1);
    Due.due("24: equal value, higher number", x.fetch(), 7);
    Due.due("24: one comes ahead of it", x.fetch(), -1);
    x.change(7, 0, 50);
    Due.due("24: the same once more, as it is now", x.fetch(), 7);
    x.change(7, 0, 1);
    x.change(8, 0, 60);
    Due.due("24: behind the last one as it was then", x.fetch(), 8);
    x.undo();
    Due.due("24: undone, the cursor is not", x.fetch(), -1);
    x.open(0, 39);
    x.undo();
    x.undo();
    Due.due("24: on what is now", x.fetch(), 8);
  }

  private static int rank(LeafSweep x, int index, int row) {
    try { return x.rank(index, row); } catch (NoSuchElementException e) { return -7; }
  }

  private static void ranking() {
    LeafSweep x = Due.told(SIX);
    int[] up = {0, 3, 1, 5, 4, 2};
    int[] down = {2, 3, 1, 5, 0, 4};
    int[] part = {0, 2, 1, -7, 3, -7};
    for (int r = 0; r < 6; r++) {
      Due.due("25: x " + r, rank(x, 0, r), up[r]);
      Due.due("25: y " + r, rank(x, 1, r), down[r]);
      Due.due("25: p " + r, rank(x, 2, r), part[r]);
    }
    int[][] others = {{0, 6}, {0, -1}, {3, 0}, {-1, 0}, {0, Integer.MAX_VALUE}, {Integer.MIN_VALUE, 0}, {0, 31}, {0, 32}};
    for (int[] o : others) Due.due("25: others", rank(x, o[0], o[1]), -7);
    x.begin(-1, 0, 0);
    Due.due("25: a chosen one", rank(x, 0, 1), -7);
    Due.due("25: chosen ones do not count", rank(x, 0, 3), 3);
    x.insert(5, 5, 5);
    Due.due("25: one aside", rank(x, 0, 6), 0);
    Due.due("25: one aside counts", rank(x, 0, 3), 4);
    x.remove(6);
    Due.due("25: a removed one", rank(x, 0, 6), -7);
  }

  private static void skipping() {
    LeafSweep x = Due.told(SIX);
    Due.due("26: without a job", x.skips(0, 20), 0);
    Due.due("26: others", x.skips(3, 20), -1);
    Due.due("26: others", x.skips(-1, 20), -1);
    x.begin(-1, 0, 0);
    Due.due("26: chosen", x.skips(0, 20), 2);
    Due.due("26: chosen", x.skips(1, 5), 1);
    Due.due("26: any key", x.skips(0, Integer.MIN_VALUE), 0);
    x.change(0, 0, 20);
    Due.due("26: stale under the old value", x.skips(0, 10), 1);
    Due.due("26: not under the new one", x.skips(0, 20), 2);
    x.remove(2);
    Due.due("26: stale, not there", x.skips(0, 10), 2);
    x.step();
    Due.due("26: gone", x.skips(0, 20), 1);
  }

  private static void staleAndMissing() {
    LeafSweep x = Due.told("page 2;index p partial on a;index x plain on a;row 1 1 1;row 2 2 2;row 3 3 3;row 4 4 4;choose a is 1;part b from 0 to 9;");
    Due.due("27: none", x.stale(0), 0);
    Due.due("28: none", x.missing(0), 0);
    Due.due("27: others", x.stale(2), -1);
    Due.due("27: others", x.stale(-1), -1);
    Due.due("28: others", x.missing(2), -1);
    Due.due("28: others", x.missing(-1), -1);
    x.begin(-1, 0, 0);
    Due.due("28: chosen ones are not missing", x.missing(0), 0);
    x.remove(1);
    Due.due("27: not there", x.stale(0), 2);
    x.change(2, 0, 5);
    Due.due("27: another value", x.stale(0), 2 + 4);
    Due.due("28: as it is now", x.missing(0), 4);
    x.change(3, 1, 10);
    Due.due("27: does not belong", x.stale(0), 2 + 4 + 8);
    Due.due("28: it need not be there", x.missing(0), 4);
    x.insert(6, 6, 6);
    x.insert(7, 70, 7);
    Due.due("28: one that has come", x.missing(0), 4 + 16);
    Due.due("27: none where the job is not at", x.stale(1), 0);
    Due.due("28: none where the job is not at", x.missing(1), 0);
    x.change(2, 0, 3);
    Due.due("27: as it was once more", x.stale(0), 2 + 8);
    Due.due("28: as it was once more", x.missing(0), 16);
    x.step();
    Due.due("27: carried out", x.stale(0), 0);
    Due.due("28: carried out", x.missing(0), 0);
    Due.due("28: p", Due.leaves(x, 0), "2 4");
  }

  private static void sides() {
    LeafSweep x = Due.told("page 2;index x down on a;row 1 1 1;row 2 2 2;choose a is 1;");
    Due.due("29: no job", x.side(0), Integer.MIN_VALUE);
    x.begin(-1, 0, 0);
    Due.due("29: none", x.side(0), Integer.MIN_VALUE);
    x.insert(999, 0, 0);
    x.change(1, 0, 0);
    x.remove(2);
    int[] due = {2999, 1002 - 40000, 1000, 2999 - 40000};
    for (int i = 0; i < 4; i++) Due.due("29: side(" + i + ")", x.side(i), due[i]);
    Due.due("29: none such", x.side(4), Integer.MIN_VALUE);
    Due.due("29: none such", x.side(-1), Integer.MIN_VALUE);
    Due.due("29: none such", x.side(40), Integer.MIN_VALUE);
    x.step();
    Due.due("29: carried out", x.side(0), Integer.MIN_VALUE);
  }

  private static void splitting() {
    LeafSweep x = Due.told("page 2;index x plain on a;index y down on a;index p partial on a;row 10 0 0;row 20 0 0;row 30 0 0;part a is 5;");
    Due.due("30: x", Due.leaves(x, 0), "0 1|2");
    Due.due("30: y", Due.leaves(x, 1), "2 1|0");
    boolean[] up = {true, true, true, true, false, false};
    boolean[] down = {false, false, true, true, true, true};
    int[] keys = {0, 10, 20, 29, 30, 999};
    for (int i = 0; i < 6; i++) {
      Due.due("30: x at " + keys[i], x.splits(0, keys[i]), up[i]);
      Due.due("30: y at " + keys[i], x.splits(1, keys[i]), down[i]);
    }
    Due.due("30: no leaf", x.splits(2, 5), false);
    Due.due("30: others", x.splits(3, 5), false);
    Due.due("30: others", x.splits(-1, 5), false);
    Due.due("30: others", x.splits(0, -1), false);
    Due.due("30: others", x.splits(0, 1000), false);
    for (int i = 3; i < 30; i++) x.insert(500, 0, 0);
    Due.due("30: no bound", x.splits(0, 0), true);
    Due.due("30: no bound", x.splits(1, 0), false);
    x.remove(1);
    Due.due("30: room", x.splits(0, 0), false);
  }

  private static void filling() {
    LeafSweep x = Due.told("page 3;index x plain on a;index p partial on a;row 1 0 0;row 2 0 0;row 3 0 0;row 4 0 0;row 5 0 0;part a is 9;");
    Due.due("31: x", Due.leaves(x, 0), "0 1|2 3 4");
    Due.due("31: 5 of 6", x.fill(0), 83);
    Due.due("31: no leaf", x.fill(1), 0);
    Due.due("31: others", x.fill(2), -1);
    Due.due("31: others", x.fill(-1), -1);
    Due.due("32: none", x.sparse(0), 0);
    x.remove(0);
    Due.due("31: 4 of 6", x.fill(0), 66);
    Due.due("32: 1 of 3", x.sparse(0), 1);
    Due.due("32: no leaf", x.sparse(1), 0);
    Due.due("32: others", x.sparse(2), -1);
    Due.due("32: others", x.sparse(-1), -1);
    x = Due.told("page 4;index x plain on a;" + HandTest.upwards(6));
    Due.due("32: x", Due.leaves(x, 0), "0 1 2|3 4 5");
    x.remove(0);
    Due.due("32: 2 of 4 is half", x.sparse(0), 0);
    x.remove(1);
    x.remove(3);
    x.remove(4);
    Due.due("32: 1 of 4 is fewer", x.sparse(0), 2);
    Due.due("31: 2 of 8", x.fill(0), 25);
  }
}
