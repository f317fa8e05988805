import java.util.List;

/** Promises 1 to 4, sentence by sentence: a new object, the tape, the two languages and their faults. */
public final class Bounds01To04Test extends Bounds {
  public static void main(String[] args) throws Exception { run(Bounds01To04Test.class); }

  /** A text in which ^ stands ahead of the first wrong token (behind all: the end), and the kind of its FAULT. */
  private static void wrong(int kind, String marked) {
    int place = marked.indexOf('^');
    String text = marked.substring(0, place) + marked.substring(place + 1);
    is("table() of '" + text + "'", Due.table(new LeafSweep(), text), kind + 16 * place);
  }

  private static LeafSweep fine(String text) {
    LeafSweep x = new LeafSweep();
    is("table() of '" + text + "'", Due.table(x, text), 0);
    return x;
  }

  private static final String ONE = "index x plain on a;index yy down on b;row 1 1 1;";

  private static void wrongWork(int kind, String marked) {
    int place = marked.indexOf('^');
    String text = marked.substring(0, place) + marked.substring(place + 1);
    is("work() of '" + text + "'", Due.work(told(ONE), text), kind + 16 * place);
  }

  private static void fineWork(String text, int lines) {
    LeafSweep x = told(ONE);
    is("work() of '" + text + "'", Due.work(x, text), 0);
    is("lines of '" + text + "'", x.count(7), lines);
  }

  private static final String[] KEPT = ("page batch index on row point at choose part insert remove change begin step stop crash resume pack "
      + "plain down once partial firm loose bound a b c from to is over every twin pointed not and or").split(" ");

  // ---------------------------------------------------------------- promise 1

  @Says({"`LeafSweep()`: Nothing.", "At first: nothing (page 4, batch 2)."})
  static void promise1_nothingAtFirst() {
    LeafSweep x = new LeafSweep();
    int[] counts = {4, 2, 0, 0, 0, 0, 0, 0, 0, 0};
    for (int w = 0; w < 10; w++) is("count(" + w + ")", x.count(w), counts[w]);
    for (int w = 0; w < 6; w++) is("row(0, " + w + ")", x.row(0, w), -1);
    for (int w = 0; w < 5; w++) is("index(0, " + w + ")", x.index(0, w), -1);
    for (int w = 0; w < 7; w++) is("job(" + w + ")", x.job(w), -1);
    is("leaf", x.leaf(0, 0, 0), -1);
    is("pointer", x.pointer(0, 1), -3);
    is("side", x.side(0), LOW);
    is("record", x.record(0, 0), -1);
    is("undo", x.undo(), false);
    is("fetch", x.fetch(), -1);
    is("ways", x.ways(), 0);
    is("hinders", x.hinders(), 0);
    is("steps", x.steps(), -1);
    is("begin", x.begin(-1, 0, 0), -1);
    is("table() of nothing", x.table(), 0);
    is("work() of nothing", x.work(), 0);
  }

  @Says("The constants: `NONE = -1`: None.")
  static void promise1_noneIsMinusOne() { is("NONE", LeafSweep.NONE, -1); }

  @Says("An object is used for at most 512 calls after it has been made; what later calls answer is free.")
  static void promise1_the512thCallStillAnswers() {
    LeafSweep x = new LeafSweep();
    for (int i = 0; i < 30; i++) is("insert " + i, x.insert(i, i, i), i);
    for (int i = 0; i < 240; i++) {
      is("change " + i, x.change(i % 30, 1, i), true);
      is("count " + i, x.count(8), 16);
    }
    is("the 511th call", x.undo(), true);
    is("the 512th call", x.row(29, 1), 209);
  }

  // ---------------------------------------------------------------- promise 2

  @Says({"`int feed(long a, long b, long c)`: Up to 24 signs come behind the TAPE", "how many there are."})
  static void promise2_upTo24SignsACall() {
    LeafSweep x = new LeafSweep();
    is("none", x.feed(0L, 0L, 0L), 0);
    is("24", x.feed(0x2020202020202020L, 0x2020202020202020L, 0x2020202020202020L), 24);
    is("one more", x.feed(0L, 0x0000002000000000L, 0L), 25);
    is("none more", x.feed(0L, 0L, 0L), 25);
    is("23 more", x.feed(0x2020202020202020L, 0x2020202020200020L, 0x2020202020202020L), 48);
    is("how many there are", x.count(9), 48);
    is("behind what is there: 'x' is the 49th", x.feed(0L, 0L, 'x'), 49);
    is("its place", x.table(), 1 + 16 * 48);
  }

  @Says("the bytes of a, b, c, of each the highest first")
  static void promise2_theHighestByteFirst() {
    LeafSweep x = new LeafSweep();
    is("page 3;b atch 5;c hoose a;", x.feed(0x7061676520333B62L, 0x6174636820353B63L, 0x686F6F736520613BL), 24);
    is("the ; behind a", x.table(), 1 + 16 * 23);
    is("page 3;b atch 5;ro w 1 2 3;", x.feed(0x7061676520333B62L, 0x6174636820353B72L, 0x6F7720312032333BL), 24);
    is("the ; behind 23", x.table(), 1 + 16 * 23);
    is("page 3;b atch 5;ro w 1 2 3;", x.feed(0x7061676520333B62L, 0x6174636820353B72L, 0x6F7731203220333BL), 24);
    is("taken", x.table(), 0);
    is("page", x.count(0), 3);
    is("batch", x.count(1), 5);
    is("c", x.row(0, 2), 3);
  }

  @Says({"signs, 10 and 32 .. 126;", "others than 10 and 32 .. 126,"})
  static void promise2_signs10And32To126() {
    for (int sign = 0; sign < 256; sign++) {
      boolean kept = sign == 10 || sign >= 32 && sign <= 126;
      LeafSweep x = new LeafSweep();
      is("the highest of a, " + sign, x.feed((long) sign << 56, 0L, 0L), kept ? 1 : 0);
      is("the lowest of c, " + sign, x.feed(0L, 0L, sign), kept ? 2 : 0);
      is("in the middle of b, " + sign, x.feed(-1L, (long) sign << 24, -1L), kept ? 3 : 0);
    }
  }

  @Says({"The TAPE has at most 1,000 signs", "and what is beyond 1,000, are left out"})
  static void promise2_beyond1000() {
    LeafSweep x = new LeafSweep();
    for (int i = 0; i < 41; i++) x.feed(0x2020202020202020L, 0x2020202020202020L, 0x2020202020202020L);
    is("984", x.count(9), 984);
    is("984 and 15", x.feed(0x2020202020202020L, 0x2020202020202000L, 0L), 999);
    is("what is no sign does not count", x.feed(-1L, 0x0001020304050600L, -1L), 999);
    is("the 1,000th is kept, what is behind it left out", x.feed(0x0000783B3B3B3B3BL, 0x3B3B3B3B3B3B3B3BL, 0x3B3B3B3B3B3B3B3BL), 1000);
    is("no more", x.feed(0x3B3B3B3B3B3B3B3BL, 0L, 0L), 1000);
    is("count(9)", x.count(9), 1000);
    is("the x is the 1,000th", x.table(), 1 + 16 * 999);
    String thousand = "row 1 2 3;" + " ".repeat(989) + ";";
    is("1,000 signs", Due.feed(x, thousand), 1000);
    is("the last one is read", x.table(), 1 + 16 * 999);
    is("1,001 signs", Due.feed(x, " " + thousand), 1000);
    is("the 1,001st is not", x.table(), 0);
    is("the row", x.row(0, 2), 3);
  }

  @Says("what reads it takes it: it is empty then.")
  static void promise2_whatReadsTakes() {
    LeafSweep x = new LeafSweep();
    Due.feed(x, "page 2;");
    is("table", x.table(), 0);
    is("taken", x.count(9), 0);
    is("nothing is read twice", x.table(), 0);
    is("page as when not told", x.count(0), 4);
    Due.feed(x, "page 1");
    is("a FAULT", x.table(), 4 + 16 * 5);
    is("taken with a FAULT, too", x.count(9), 0);
    Due.feed(x, "stop;");
    is("work", x.work(), 0);
    is("taken by work", x.count(9), 0);
    is("from its begin again", x.feed(0x7800000000000000L, 0L, 0L), 1);
    is("a FAULT", x.work(), 1);
    is("taken by work with a FAULT", x.count(9), 0);
    is("seven", Due.feed(x, "page 3;"), 7);
    is("a question", x.judged(1), 0);
    is("a question", x.ways(), 0);
    is("questions do not take it", x.count(9), 7);
  }

  // ---------------------------------------------------------------- promise 3: the tokens

  @Says("TOKENS, each as long as can be,")
  static void promise3_tokensAsLongAsCanBe() {
    wrong(1, "^pages 2;");
    wrong(1, "row 1^x1 1;");
    wrong(4, "page ^22;");
    wrong(4, "row 1 ^1000;");
    wrong(1, "index x plain on ^ab;");
    wrong(1, "index x plain ^ona;");
    fine("index rowrow plain on a;index pagea plain on b;index bc plain on c;index ors plain on a;");
    is("one number of three digits", fine("row 123 45 6;").row(0, 0), 123);
  }

  @Says("blanks (10, 32) between where one likes:")
  static void promise3_blanksWhereOneLikes() {
    fine(" ");
    fine("\n");
    fine("\n \n");
    LeafSweep x = fine("\n page\n3 \n ;batch8;row1 2\n3;\n\n row 4 5 6 ; ");
    is("page", x.count(0), 3);
    is("batch", x.count(1), 8);
    is("rows", x.count(3), 2);
    fine("page3;batch2;index x plain on a;row 1 2 3;point firm at1;choose a from0to5and not b is2or every2or twin c and pointed;part every9;");
    wrong(1, "page 2 ;   ^x");
    wrong(1, "\n\n ^;");
  }

  @Says("WORDS (letters a .. z, 8 at most),")
  static void promise3_wordsOf8Letters() {
    fine("index abcdefgh plain on a;index stuvwxyz plain on b;index z plain on c;index aa plain on c;");
    wrong(1, "index ^abcdefghi plain on a;");
    wrong(1, "index ^abcdefghijklmnopqrstuvwxyz plain on a;");
    wrong(1, "^Page 2;");
    wrong(1, "index ^X plain on a;");
    wrong(1, "index x^Y plain on a;");
    wrong(1, "index x^_y plain on a;");
    wrong(1, "index ^`x plain on a;");
    wrong(1, "index ^{x plain on a;");
    wrong(1, "index x^` plain on a;");
    wrong(1, "index x^{ plain on a;");
  }

  @Says("NUMBERS (1 to 4 digits;")
  static void promise3_numbersOf4Digits() {
    is("four digits", fine("page 0003;").count(0), 3);
    is("four digits", fine("row 0000 0999 0050;").row(0, 2), 50);
    wrong(1, "page ^00003;");
    wrong(1, "row 1 2 ^00003;");
    wrong(4, "row 1 2 ^9999;");
    wrong(1, "page ^/;");
    wrong(1, "page ^:;");
    wrong(1, "page 2^/;");
    wrong(1, "page 2^:;");
    wrong(1, "page ^-2;");
    wrong(1, "page 2^.0;");
  }

  @Says("a letter may stand right behind)")
  static void promise3_aLetterRightBehindANumber() {
    LeafSweep x = fine("row 1 2 3;choose a is 1and b is 2or c is 9;");
    is("so", x.fits(0, 0), true);
    wrong(1, "page 2^x");
    wrong(1, "row 1 2 3^row 1 2 3;");
    fineWork("change 0a5;change 0b6;", 2);
    wrong(1, "row 1 2 ^12345x;");
  }

  @Says({"the sign ;", "All else (a longer WORD or NUMBER, too, at its first sign) is none."})
  static void promise3_allElseIsNone() {
    for (char c = 32; c <= 126; c++) {
      boolean word = c >= 'a' && c <= 'z', digit = c >= '0' && c <= '9';
      is("alone: " + c, Due.table(new LeafSweep(), "" + c), c == ' ' ? 0 : 1);
      is("behind page 2: " + c, Due.table(new LeafSweep(), "page 2" + c), c == ';' ? 0 : digit ? 4 + 16 * 5 : c == ' ' ? 1 + 16 * 7 : 1 + 16 * 6);
      is("behind page: " + c, Due.table(new LeafSweep(), "page" + c), word ? 1 : c == ' ' ? 1 + 16 * 5 : digit ? (c < '2' || c == '9' ? 4 + 16 * 4 : 1 + 16 * 5) : 1 + 16 * 4);
    }
    wrong(1, "^abcdefghi");
    wrong(1, "page 2; ^123456");
    wrong(1, "page 2; batch 2;^abcdefghijklmnop 3");
  }

  // ---------------------------------------------------------------- promise 3: what a TABLE is told in

  @Says("TABLE: any number of page N ; batch N ; index NAME KIND on COLUMN ; row N N N ; point SORT at N ; choose WHERE ; part WHERE ;")
  static void promise3_aTableIsAnyNumberOfLines() {
    fine("");
    fine("page 2;");
    LeafSweep x = fine("part every 2;choose every 3;batch 3;page 5;index x plain on a;row 1 2 3;point firm at 1;row 4 5 6;point loose at 4;");
    is("page", x.count(0), 5);
    is("batch", x.count(1), 3);
    is("indexes", x.count(2), 1);
    is("rows", x.count(3), 2);
    is("points", x.count(5), 2);
    is("choose", x.fits(1, 0), false);
    is("part", x.fits(1, 1), false);
    String[] broken = {"page^;", "page 2 ^2;", "page ^x;", "batch ^;", "batch 2^", "index ^;", "index x ^on a;", "index x plain ^a;", "index x plain on ^;", "index x plain on a^",
        "index ^plain on a;", "row ^;", "row 1 ^;", "row 1 2 ^;", "row 1 2 3^", "row 1 2 3 ^4;", "row ^a", "point ^at 1;", "row 1 1 1;point firm ^1;", "row 1 1 1;point firm at ^;",
        "row 1 1 1;point firm at 1^", "row 1 1 1;point firm at 1 ^1;", "choose^", "choose ^;", "part^", "part ^;", "^step 1;", "^insert 1 2 3;", "^2;", "^;", "page 2;^;", "^x", "^plain", "^on"};
    for (String text : broken) wrong(1, text);
  }

  @Says("page 2 to 8 (4);")
  static void promise3_page2To8() {
    wrong(4, "page ^0;");
    wrong(4, "page ^1;");
    for (int n = 2; n <= 8; n++) is("page " + n, fine("page " + n + ";").count(0), n);
    wrong(4, "page ^9;");
    wrong(4, "page ^9999;");
    LeafSweep x = fine("page 8;");
    Due.table(x, "batch 3;");
    is("4, if it is not told", x.count(0), 4);
  }

  @Says("batch 1 to 8 (2).")
  static void promise3_batch1To8() {
    wrong(4, "batch ^0;");
    for (int n = 1; n <= 8; n++) is("batch " + n, fine("batch " + n + ";").count(1), n);
    wrong(4, "batch ^9;");
    wrong(4, "batch ^1000;");
    LeafSweep x = fine("batch 8;");
    Due.table(x, "page 3;");
    is("2, if it is not told", x.count(1), 2);
  }

  @Says({"index: 4 at most,", "numbered as told,", "KIND: plain, down, once, partial; COLUMN: a, b, c."})
  static void promise3_fourIndexesNumberedAsTold() {
    LeafSweep x = fine("index k partial on c;index m once on b;index n down on a;index l plain on b;");
    is("how many", x.count(2), 4);
    int[] kinds = {3, 2, 1, 0}, columns = {2, 1, 0, 1};
    for (int i = 0; i < 4; i++) is("KIND of " + i, x.index(i, 0), kinds[i]);
    for (int i = 0; i < 4; i++) is("COLUMN of " + i, x.index(i, 1), columns[i]);
    wrong(5, "index k plain on a;index m plain on a;index n plain on a;index o plain on a;^index p plain on a;");
    for (String word : KEPT) if (!List.of("plain", "down", "once", "partial").contains(word)) wrong(1, "index x ^" + word + " on a;");
    for (String word : KEPT) if (word.length() > 1) wrong(1, "index x plain on ^" + word + ";");
    wrong(1, "index x plain on ^d;");
  }

  @Says("ahead of the first row;")
  static void promise3_indexesAheadOfTheFirstRow() {
    wrong(1, "row 1 1 1;^index x plain on a;");
    wrong(1, "index x plain on a;row 1 1 1;^index y plain on a;");
    wrong(1, "row 1 1 1;page 2;choose every 2;^index x plain on a;");
    is("behind all else", fine("page 3;batch 3;choose a is 1;part a is 1;index x plain on a;row 1 1 1;").count(2), 1);
  }

  @Says({"row: 20 at most,", "numbered as told;"})
  static void promise3_20RowsNumberedAsTold() {
    LeafSweep x = fine(up(20));
    is("twenty", x.count(3), 20);
    for (int r = 0; r < 20; r++) is("a of " + r, x.row(r, 0), r);
    wrong(5, up(20) + "^row 1 1 1;");
    wrong(5, up(20) + " ^row");
    is("nineteen and another line", fine(up(19) + "page 2;row 5 5 5;").count(3), 20);
  }

  @Says("0 to 999 each.")
  static void promise3_rowNumbers0To999() {
    LeafSweep x = fine("row 0 0 0;row 999 999 999;");
    for (int w = 0; w < 3; w++) is("0", x.row(0, w), 0);
    for (int w = 0; w < 3; w++) is("999", x.row(1, w), 999);
    wrong(4, "row ^1000 0 0;");
    wrong(4, "row 0 ^1000 0;");
    wrong(4, "row 0 0 ^1000;");
    wrong(4, "row 0 0 ^9999;");
  }

  @Says({"point: 8 at most,", "SORT: firm, loose, bound;"})
  static void promise3_8PointsNumberedAsTold() {
    String[] sorts = {"firm", "loose", "bound"};
    StringBuilder s = new StringBuilder("row 7 0 0;row 8 0 0;");
    for (int i = 0; i < 8; i++) s.append("point ").append(sorts[i % 3]).append(" at ").append(7 + i % 2).append(';');
    LeafSweep x = fine(s.toString());
    is("eight", x.count(5), 8);
    for (int p = 0; p < 8; p++) is("SORT of " + p, x.pointer(p, 0), p % 3);
    for (int p = 0; p < 8; p++) is("where " + p + " points", x.pointer(p, 1), 7 + p % 2);
    wrong(5, s + "^point firm at 7;");
    wrong(5, s + "^point");
    for (String word : KEPT) if (!List.of("firm", "loose", "bound").contains(word)) wrong(1, "row 1 1 1;point ^" + word + " at 1;");
  }

  @Says({"N is the a of a ROW told ahead.", "behind at a NUMBER that is no ROW's a;"})
  static void promise3_pointAtTheAOfARowToldAhead() {
    wrong(2, "point firm at ^1;");
    wrong(2, "row 1 2 3;point firm at ^2;");
    wrong(2, "row 1 2 3;point loose at ^3;");
    wrong(2, "row 1 2 3;point bound at ^5;row 5 5 5;");
    wrong(2, "row 1 2 3;point firm at ^0;");
    is("0", fine("row 0 2 3;point firm at 0;").pointer(0, 1), 0);
    is("999", fine("row 999 2 3;point firm at 999;").pointer(0, 1), 999);
    is("a later row", fine("row 1 2 3;row 4 5 6;point firm at 4;").pointer(0, 1), 4);
    is("told with zeros ahead", fine("row 4 5 6;point firm at 0004;").pointer(0, 1), 4);
  }

  @Says({"page, batch, choose, part: once each.", "page, batch, choose, part a second time;"})
  static void promise3_onceEach() {
    wrong(3, "page 2;^page 2;");
    wrong(3, "batch 2;^batch 2;");
    wrong(3, "choose every 2;^choose every 2;");
    wrong(3, "part every 2;^part every 2;");
    wrong(3, "page 2;batch 2;part every 2;choose every 2;row 1 1 1;^page");
    wrong(3, "batch 2;row 1 1 1;page 2;^batch");
    LeafSweep x = fine("page 2;batch 2;choose every 2;part every 2;");
    is("once each in every TABLE", Due.table(x, "page 3;batch 3;choose every 3;part every 3;"), 0);
  }

  @Says({"A NAME is another WORD than page, batch, index, on, row, point, at, choose, part, insert, remove, change, begin, step, stop, crash, resume, pack, the KINDS, the SORTS, the COLUMNS,",
      "from, to, is, over, every, twin, pointed, not, and, or;"})
  static void promise3_aNameIsAnotherWord() {
    for (String word : KEPT) wrong(1, "index ^" + word + " plain on a;");
    for (String word : KEPT) if (word.length() < 8) fine("index " + word + "z plain on a;");
    for (String word : KEPT) if (word.length() > 2) fine("index " + word.substring(1) + "q plain on a;");
    fine("index d plain on a;index table plain on a;index work plain on a;index none plain on a;");
    wrong(1, "index ^7 plain on a;");
    wrong(1, "index ^; plain on a;");
    wrong(1, "index^");
  }

  @Says({"no two are alike.", "3 a NAME told already;"})
  static void promise3_noTwoNamesAlike() {
    wrong(3, "index x plain on a;index ^x down on b;");
    wrong(3, "index x plain on a;index y plain on a;index z plain on a;index ^y down on b;");
    wrong(3, "index abcdefgh plain on a;index ^abcdefgh plain on a;");
    fine("index abcdefgh plain on a;index abcdefgi plain on a;index bbcdefgh plain on a;index abcdefg plain on a;");
    fine("index x plain on a;index xx plain on a;index xxx plain on a;index xxxx plain on a;");
    LeafSweep x = fine("index x plain on a;");
    is("alike in another TABLE", Due.table(x, "index x plain on a;"), 0);
  }

  @Says("WHERE: GROUP { or GROUP }: any of them; GROUP: LIMIT { and LIMIT }: all of them; LIMIT, or not and a LIMIT (it is not so):")
  static void promise3_whereGroupsAndLimits() {
    fine("choose every 2;");
    fine("choose not every 2;");
    fine("choose every 2 and every 3 or not every 2 and not every 3 or every 5;");
    wrong(1, "choose every 2 ^every 3;");
    wrong(1, "choose every 2 and ^;");
    wrong(1, "choose every 2 or^");
    wrong(1, "choose every 2 and ^or every 3;");
    wrong(1, "choose ^and every 2;");
    wrong(1, "choose not ^not every 2;");
    wrong(1, "choose not ^;");
    wrong(1, "choose every 2 ^not every 2;");
    wrong(1, "choose ^x is 1;");
    wrong(1, "choose ^1;");
    wrong(1, "choose every 2 and ^1;");
  }

  @Says({"COLUMN from N to N (the value of a ROW is in these bounds; 0 to 999);", "COLUMN is N (0 to 999);", "COLUMN over COLUMN (the first one's value is more);"})
  static void promise3_limitsOfAColumn() {
    fine("choose a from 0 to 999;");
    fine("choose b from 999 to 0;");
    fine("part c from 0 to 0;");
    wrong(4, "choose a from ^1000 to 0;");
    wrong(4, "choose a from 0 to ^1000;");
    wrong(4, "choose a from 0 to ^9999;");
    wrong(1, "choose a from ^to 5;");
    wrong(1, "choose a from 5 ^5;");
    wrong(1, "choose a from 5 to ^;");
    wrong(1, "choose a from 5 to ^a;");
    fine("choose a is 0;");
    fine("choose a is 999;");
    wrong(4, "choose a is ^1000;");
    wrong(1, "choose a is ^;");
    wrong(1, "choose a is ^a;");
    fine("choose a over a;");
    wrong(1, "choose a over ^5;");
    wrong(1, "choose a over ^x;");
    wrong(1, "choose a ^5;");
    wrong(1, "choose a ^to 5;");
    wrong(1, "choose a ^;");
    wrong(1, "choose a^");
  }

  @Says("every N (the ROW's number is a multiple of 2 to 9);")
  static void promise3_every2To9() {
    wrong(4, "choose every ^0;");
    wrong(4, "choose every ^1;");
    fine("choose every 2;");
    fine("choose every 9;");
    wrong(4, "choose every ^10;");
    wrong(4, "part every ^1;");
    wrong(4, "part every ^10;");
    wrong(1, "choose every ^a;");
    wrong(1, "choose every ^;");
  }

  @Says({"twin COLUMN (another VISIBLE ROW has its value);", "pointed (a POINTER points at its a).", "The last two can't stand in part."})
  static void promise3_twinAndPointedNotInPart() {
    fine("choose twin a and twin b or twin c and not twin a and pointed or not pointed;");
    wrong(1, "choose twin ^;");
    wrong(1, "choose twin ^1;");
    wrong(1, "choose twin ^x;");
    wrong(1, "choose pointed ^a;");
    wrong(1, "part ^twin a;");
    wrong(1, "part ^pointed;");
    wrong(1, "part not ^twin a;");
    wrong(1, "part not ^pointed;");
    wrong(1, "part every 2 and ^twin a;");
    wrong(1, "part every 2 or not ^pointed;");
    fine("part every 2;choose pointed;");
  }

  @Says({"12 LIMITS at most in each WHERE.", "of a 13th LIMIT (not, if it has one)."})
  static void promise3_12Limits() {
    String eleven = "every 2 and ".repeat(5) + "not a is 1 or ".repeat(6);
    fine("choose " + eleven + "b over c;");
    fine("part " + eleven + "b over c;choose " + eleven + "not twin a;");
    wrong(5, "choose " + eleven + "b over c and ^a is 1;");
    wrong(5, "choose " + eleven + "b over c or ^pointed;");
    wrong(5, "choose " + eleven + "b over c or ^not pointed;");
    wrong(5, "choose " + eleven + "b over c or ^not");
    wrong(5, "choose " + eleven + "b over c and ^every");
    wrong(5, "choose " + eleven + "b over c and ^twin");
    wrong(5, "part " + eleven + "b over c and ^every 2;");
    wrong(5, "part " + eleven + "b over c and ^not every 2;");
    wrong(1, "part " + eleven + "b over c and ^twin a;");
    wrong(1, "choose " + eleven + "b over c and ^;");
    wrong(1, "choose " + eleven + "b over c and^");
  }

  @Says("Without choose, without part: it is so.")
  static void promise3_withoutChooseOrPart() {
    LeafSweep x = fine("row 1 1 1;choose a is 2;part a is 2;");
    is("choose", x.fits(0, 0), false);
    is("part", x.fits(0, 1), false);
    Due.table(x, "index p partial on a;row 1 1 1;");
    is("without choose", x.fits(0, 0), true);
    is("without part", x.fits(0, 1), true);
    is("it belongs", x.row(0, 5), 1);
    is("all are chosen", x.begin(-1, 0, 0), 1);
  }

  // ---------------------------------------------------------------- promise 3: the FAULTS

  @Says({"`int table()`: The TAPE is read as a TABLE: 0, or its FAULT", "FAULTS, kind + 16 * the place (from 0) of a token,"})
  static void promise3_kindAnd16TimesThePlace() {
    wrong(1, "^x");
    wrong(1, " ^x");
    wrong(4, "page ^1;");
    wrong(2, "point firm at ^7;");
    wrong(3, "page 2;^page");
    wrong(1, " ".repeat(999) + "^;");
    LeafSweep x = new LeafSweep();
    Due.feed(x, "pa");
    x.feed(0x0102030405060708L, -1L, 0x7F80FEFFL);
    Due.feed(x, "ge 1");
    is("signs that were left out have no place", x.table(), 4 + 16 * 5);
  }

  @Says("the end being one at the text's length:")
  static void promise3_theEndIsAToken() {
    wrong(1, "page^");
    wrong(1, "page ^");
    wrong(1, "page 2  \n^");
    wrong(1, "page 2; row 1 2 3^");
    wrong(1, "index^");
    wrong(1, "index x plain on a   ^");
    wrong(1, "choose a is 1 and ^");
    String full = "page 2" + " ".repeat(994);
    is("the end of a full tape", Due.table(new LeafSweep(), full), 1 + 16 * 1000);
  }

  @Says("of the first token from the left that is wrong the least:")
  static void promise3_theFirstWrongOneFromTheLeft() {
    wrong(4, "page ^1 Q");
    wrong(1, "page 2^Q;page 9;");
    wrong(4, "batch ^9;page 2;page 2;");
    wrong(3, "page 2;^page 9 Q");
    wrong(4, "row ^1000 1000 Q;");
    wrong(2, "point firm at ^1 Q");
    wrong(1, "index x plain ^at page");
    String[] linesWithin = {"page ^page 3; Q", "batch ^page 3; Q", "index ^page 3; Q", "index x ^page 3; Q", "index x plain ^page 3; Q", "index x plain on ^page 3; Q", "index x plain on a ^page 3; Q",
        "row ^page 3; Q", "row 1 ^page 3; Q", "row 1 1 ^page 3; Q", "row 1 1 1 ^page 3; Q", "row 1 1 1;point ^page 3; Q", "row 1 1 1;point firm ^page 3; Q", "row 1 1 1;point firm at ^page 3; Q", "row 1 1 1;point firm at 1 ^page 3; Q",
        "choose ^page 3; Q", "choose not ^page 3; Q", "choose a ^page 3; Q", "choose a is ^page 3; Q", "choose a from ^page 3; Q", "choose a from 1 ^page 3; Q", "choose a from 1 to ^page 3; Q", "choose a over ^page 3; Q",
        "choose every ^page 3; Q", "choose twin ^page 3; Q", "choose pointed ^page 3; Q", "choose pointed and ^page 3; Q", "part ^page 3; Q"};
    for (String text : linesWithin) wrong(1, text);
    wrong(2, "point firm at ^1; page 3; Q");
    wrong(4, "choose a from ^1000; page 3; Q");
  }

  @Says("of the first token from the left that is wrong the least:")
  static void promise3_theLeastKindOfOneToken() {
    String four = "index k plain on a;index l plain on a;index m plain on a;index n plain on a;";
    wrong(1, four + "row 1 1 1;^index o plain on a;");
    wrong(2, "row 1 1 1;point firm at ^1000;");
    wrong(2, "row 1 1 1;point firm at ^9999;");
    wrong(1, "row 1 1 1;point firm at ^10000;");
    wrong(1, "part " + "every 2 or ".repeat(12) + "^pointed;");
    wrong(1, "index x plain on a;index ^page plain on a;");
  }

  @Says({"1 it is none, or can't stand there", "(index behind a row, too);"})
  static void promise3_fault1() {
    wrong(1, "^?");
    wrong(1, "^abcdefghi");
    wrong(1, "^12345");
    wrong(1, "page 2;^2");
    wrong(1, "page 2 ^page");
    wrong(1, "row 1 1 1;^index");
    wrong(1, "row 1 1 1;^index 5");
    wrong(1, "row 1 1^;index x plain on a;");
  }

  @Says("a NUMBER of a ROW that stands in that COLUMN of a ROW told, if a once INDEX is on it;")
  static void promise3_aOnceNumberASecondTime() {
    wrong(3, "index o once on a;row 5 1 1;row ^5 2 2;");
    wrong(3, "index o once on b;row 1 5 1;row 2 ^5 2;");
    wrong(3, "index o once on c;row 1 1 5;row 2 2 ^5;");
    wrong(3, "index o once on a;row 0 1 1;row ^0000 2 2;");
    wrong(3, "index o once on a;row 999 1 1;row 5 1 1;row ^999 2 2;");
    wrong(3, "index p plain on a;index q down on a;index r partial on a;index o once on a;row 5 1 1;row ^5 2 2;");
    wrong(3, "index o once on a;index p once on c;row 5 1 1;row 6 1 ^1;");
    wrong(3, "index o once on a;row 5 1 1;row ^5 Q");
    wrong(4, "index o once on a;row 5 1 1;row ^1005 1 1;");
    fine("index o once on a;row 5 1 1;row 1 5 5;row 0 5 5;");
    fine("index o once on a;index q once on b;index r once on c;row 5 5 5;row 6 6 6;row 7 7 7;");
    fine("index o plain on a;index q down on b;index r partial on c;row 5 5 5;row 5 5 5;");
    LeafSweep x = fine("index o once on a;row 5 5 5;");
    is("a ROW of the TABLE ahead does not count", Due.table(x, "index o once on a;row 5 5 5;"), 0);
  }

  @Says("4 a NUMBER that is not as told;")
  static void promise3_fault4() {
    wrong(4, "page ^0;");
    wrong(4, "batch ^0009;");
    wrong(4, "row 1 ^2000 3;");
    wrong(4, "choose b is ^1001;");
    wrong(4, "choose every 2 and every ^10;");
    wrong(4, "part c from 5 to ^1000;");
  }

  @Says({"5 one too many: the words index of a fifth, row of a 21st, point of a ninth,"})
  static void promise3_fault5() {
    wrong(5, "index k plain on a;index l plain on a;index m plain on a;index n plain on a; ^index");
    wrong(5, up(20) + "^row Q");
    wrong(5, "row 1 1 1;" + "point bound at 1;".repeat(8) + "^point Q");
    wrong(5, "row 1 1 1;" + "point bound at 1;".repeat(8) + up(19).replace("row 1 ", "row 2 ") + "^row");
    wrong(1, up(20) + "^rows");
  }

  @Says("(all stays then).")
  static void promise3_allStaysWithAFault() {
    LeafSweep x = told("page 2;batch 1;index x down on a;row 1 2 3;row 4 5 6;point loose at 1;choose a is 1;part every 2;");
    Due.work(x, "begin;step 1;");
    x.insert(9, 9, 9);
    x.open(0, 999);
    is("fetch", x.fetch(), 2);
    x.begin(-1, 0, 0);
    x.step();
    String ahead = sight(x);
    for (String text : new String[] {"page 3;batch 3;index y plain on b;index z plain on c;row 7 7 7;point firm at 7;choose b is 7;part a is 5;Q", "x", "page 9;", "page 3"}) {
      is("a FAULT", Due.table(x, text) > 0, true);
      is("all stays", sight(x), ahead);
    }
    is("the WORK stays", x.count(7), 2);
    is("what can be undone stays", x.count(8), 3);
    is("choose stays", x.fits(1, 0), false);
    is("part stays", x.fits(1, 1), false);
    is("the CURSOR stays", x.fetch(), 1);
    is("JUDGED stays", x.judged(1), 1);
    is("JUDGED stays: PASS 2, RECORD 1", x.judged(2), 3);
    is("undo", x.undo(), true);
    is("names stay", Due.work(x, "pack x;"), 0);
    is("names of it are none", Due.work(x, "pack y;"), 2 + 16 * 5);
  }

  // ---------------------------------------------------------------- promise 3: a TABLE is taken

  @Says("Without a FAULT a TABLE is the TABLE from then on:")
  static void promise3_withoutAFaultItIsTheTable() {
    LeafSweep x = told("page 2;batch 7;index x plain on a;index y plain on b;row 1 2 3;row 4 5 6;point firm at 4;choose a is 1;part a is 1;");
    is("another one", Due.table(x, "index z once on c;row 7 8 9;"), 0);
    int[] counts = {4, 2, 1, 1, 1, 0, 0, 0, 0, 0};
    for (int w = 0; w < 10; w++) is("count(" + w + ")", x.count(w), counts[w]);
    is("its KIND", x.index(0, 0), 2);
    is("its row", x.row(0, 2), 9);
    is("no pointer", x.pointer(0, 0), -3);
    is("no choose", x.fits(0, 0), true);
    is("no part", x.fits(0, 1), true);
    is("an empty one", Due.table(x, ""), 0);
    is("no row", x.count(3), 0);
    is("no index", x.count(2), 0);
  }

  @Says("Without a FAULT a TABLE is the TABLE from then on:")
  static void promise3_nothingStaysOfTablesAhead() {
    LeafSweep x = new LeafSweep();
    String much = "page 8;batch 8;index k once on a;index l down on b;row 5 5 5;row 6 6 6;point firm at 5;point loose at 6;choose not a is 5;part a is 7;";
    for (int i = 0; i < 4; i++) {
      is("much", Due.table(x, much + (i < 2 ? "" : "Q")) > 0, i >= 2);
      is("little", Due.table(x, "index p partial on c;row 5 5 5;"), 0);
      int[] counts = {4, 2, 1, 1, 1, 0, 0, 0, 0, 0};
      for (int w = 0; w < 10; w++) is("count(" + w + ")", x.count(w), counts[w]);
      is("choose", x.fits(0, 0), true);
      is("part", x.fits(0, 1), true);
      is("KIND", x.index(0, 0), 3);
      is("p", leaves(x, 0), "0");
      is("no name of it", Due.work(x, "pack k;"), 2 + 16 * 5);
      is("no pointer of it", x.change(0, 0, 9), true);
      is("JUDGED of no WORK", x.judged(1), 1);
    }
  }

  @Says("no JOB is there, nothing SPENT, no CURSOR, no WORK, nothing can be undone.")
  static void promise3_nothingStaysOfAJob() {
    String table = "batch 8;index x plain on a;row 1 1 1;row 2 2 2;row 3 3 3;choose a from 1 to 2;";
    LeafSweep x = begun(table, 2);
    x.insert(5, 5, 5);
    x.step();
    is("taken while one is gone SINCE and one aside", Due.table(x, table), 0);
    is("begin", x.begin(-1, 0, 0), 2);
    int[] job = {0, 0, 3, 0, 0, 0, 0};
    for (int w = 0; w < 7; w++) is("job(" + w + ")", x.job(w), job[w]);
    x.step();
    x.step();
    is("gone", x.record(0, 1), 2);
    is("SPENT", x.record(0, 2), 3);
    is("taken behind a RECORD", Due.table(x, table), 0);
    x.begin(-1, 0, 0);
    for (int w = 0; w < 7; w++) is("job(" + w + ")", x.job(w), job[w]);
    x.crash();
    is("taken while it is DOWN", Due.table(x, table), 0);
    x.begin(-1, 0, 0);
    for (int w = 0; w < 7; w++) is("job(" + w + ")", x.job(w), job[w]);
    is("not DOWN", x.step(), 0);
  }

  @Says("its ROWS are put into each INDEX by numbers,")
  static void promise3_rowsArePutByNumbers() {
    is("as they come", leaves(told("page 2;index x plain on a;row 3 0 0;row 2 0 0;row 1 0 0;"), 0), "2 1|0");
    is("as they come", leaves(told("page 2;index x plain on a;row 1 0 0;row 2 0 0;row 3 0 0;"), 0), "0 1|2");
    is("1 3 4 make 1 3|4, by 2 1 2|3|4", leaves(told("page 2;index x plain on a;row 1 0 0;row 3 0 0;row 4 0 0;row 2 0 0;"), 0), "0 3|1|2");
    LeafSweep x = told("page 2;index x plain on a;index y down on a;index z partial on a;row 1 0 0;row 2 0 0;row 3 0 0;part not a is 2;");
    is("x", leaves(x, 0), "0 1|2");
    is("y", leaves(x, 1), "2 1|0");
    is("z", leaves(x, 2), "0 2");
    is("part told behind counts for rows ahead of it", leaves(told("index p partial on a;part every 2;row 1 0 0;row 2 0 0;"), 0), "0");
  }

  @Says({"no JOB is there, nothing SPENT, no CURSOR, no WORK, nothing can be undone."})
  static void promise3_nothingElseIsThere() {
    LeafSweep x = told("index x plain on a;row 1 1 1;row 2 2 2;");
    x.insert(3, 3, 3);
    x.open(0, 0);
    Due.work(x, "begin;");
    x.begin(-1, 0, 0);
    x.insert(4, 4, 4);
    x.crash();
    x.resume();
    is("undo is there", x.count(8), 1);
    is("taken", Due.table(x, "index x plain on a;row 1 1 1;row 2 2 2;"), 0);
    is("no JOB", x.job(0), -1);
    is("nobody CHOSEN", x.count(4), 3);
    is("no SIDE list", x.side(0), LOW);
    is("nothing SPENT", x.count(6), 0);
    is("no CURSOR", x.fetch(), -1);
    is("no WORK", x.count(7), 0);
    is("JUDGED of no WORK", x.judged(1), 2);
    is("nothing can be undone", x.count(8), 0);
    is("undo", x.undo(), false);
    is("begin can be", x.begin(-1, 0, 0), 2);
    is("no RECORD", x.job(4), 0);
  }

  // ---------------------------------------------------------------- promise 4

  @Says("WORK: any number of insert N N N ; remove N ; change N COLUMN N ; begin ; step N ; stop ; crash ; resume ; pack NAME ;")
  static void promise4_aWorkIsAnyNumberOfLines() {
    fineWork("", 0);
    fineWork(" \n ", 0);
    fineWork("begin;", 1);
    fineWork("insert 1 2 3;remove 0;change 0 a 5;begin;step 1;stop;crash;resume;pack x;pack yy;", 10);
    String[] broken = {"insert^;", "insert 1 2 ^;", "insert 1 2 3^", "insert 1 2 3 ^4;", "insert ^a", "remove^;", "remove 1^", "remove 1 ^1;", "change ^a 1;", "change 0 ^1;", "change 0 ^d 1;",
        "change 0 a ^;", "change 0 a ^b;", "begin^", "begin ^1;", "step ^;", "step 1^", "stop^", "stop ^1;", "crash^", "crash ^x;", "resume^", "resume ^stop;", "pack ^;", "pack ^1;", "pack x^", "pack x ^yy;",
        "^;", "^1", "^x", "^page 2;", "^row 1 1 1;", "^index", "^point firm at 1;", "^choose every 2;", "begin;^;", "^undo;", "^steps 1;"};
    for (String text : broken) wrongWork(1, text);
  }

  @Says("(0 to 999; a ROW 0 to 29; a ROW, 0 to 999; 1 to 99; an INDEX),")
  static void promise4_numbersOfAWork() {
    fineWork("insert 0 0 0;insert 999 999 999;", 2);
    wrongWork(4, "insert ^1000 0 0;");
    wrongWork(4, "insert 0 ^1000 0;");
    wrongWork(4, "insert 0 0 ^1000;");
    fineWork("remove 0;remove 29;remove 0029;", 3);
    wrongWork(4, "remove ^30;");
    wrongWork(4, "remove ^9999;");
    fineWork("change 0 a 0;change 29 b 999;change 29 c 0;", 3);
    wrongWork(4, "change ^30 a 0;");
    wrongWork(4, "change 29 a ^1000;");
    fineWork("step 1;step 99;step 0099;", 3);
    wrongWork(4, "step ^0;");
    wrongWork(4, "step ^100;");
    wrongWork(1, "step ^00001;");
  }

  @Says({"40 lines at most.", "the first word of a 41st line of a WORK,"})
  static void promise4_40Lines() {
    fineWork("stop;".repeat(39), 39);
    fineWork("stop;".repeat(40), 40);
    wrongWork(5, "stop;".repeat(40) + "^stop;");
    wrongWork(5, "stop;".repeat(40) + "\n ^insert Q");
    wrongWork(1, "stop;".repeat(40) + "^page");
    wrongWork(1, "stop;".repeat(40) + "^;");
    wrongWork(1, "stop;".repeat(39) + "stop^");
  }

  @Says("2 a NAME of no INDEX told;")
  static void promise4_aNameOfNoIndex() {
    wrongWork(2, "pack ^z;");
    wrongWork(2, "pack ^xx;");
    wrongWork(2, "pack ^y;");
    wrongWork(2, "begin;pack ^table Q");
    wrongWork(1, "pack ^a;");
    wrongWork(1, "pack ^pack;");
    wrongWork(1, "pack ^abcdefghi;");
    for (String word : KEPT) wrongWork(1, "pack ^" + word + ";");
    is("without a TABLE", Due.work(new LeafSweep(), "pack x;"), 2 + 16 * 5);
    LeafSweep x = told("index x plain on a;");
    Due.table(x, "index y plain on a;");
    is("of the TABLE ahead", Due.work(x, "pack x;"), 2 + 16 * 5);
    is("of this one", Due.work(x, "pack y;"), 0);
  }

  @Says({"`int work()`: The TAPE is read as a WORK, likewise.", "A WORK is the WORK."})
  static void promise4_allStaysWithAFaultElseItIsTheWork() {
    LeafSweep x = told("index x plain on a;row 1 1 1;choose a is 1;");
    is("a WORK", Due.work(x, "insert 5 5 5;insert 6 6 6;"), 0);
    x.insert(2, 2, 2);
    x.open(0, 0);
    x.fetch();
    x.begin(-1, 0, 0);
    String ahead = sight(x);
    is("a FAULT", Due.work(x, "begin;insert 7 7 7;stop"), 1 + 16 * 23);
    is("the WORK stays", x.count(7), 2);
    is("JUDGED as ahead", x.judged(1), 3);
    is("all stays", sight(x), ahead);
    is("another WORK", Due.work(x, "begin;"), 0);
    is("it is the WORK", x.count(7), 1);
    is("JUDGED by it", x.judged(1), 0);
    is("else all stays", sight(x), ahead);
    is("undo stays", x.count(8), 2);
    is("the CURSOR stays", x.fetch(), 1);
    is("an empty one", Due.work(x, ""), 0);
    is("no lines", x.count(7), 0);
  }
}
