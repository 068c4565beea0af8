/** Each promise of the document by itself: ordinary inputs, the edges that it names, wrong inputs. */
public final class PromiseTest {
  private static final int LESS = -1000000000;
  private static final int BAD = -1, NOT = -2, FULL = -3, NONE = -4, NULL = -11, CAST = -12, INDEX = -13, SIZE = -14;
  private static final int LEAST = Integer.MIN_VALUE, MOST = Integer.MAX_VALUE;

  private static int wrong = 0;
  private static int asked = 0;
  private static int promise = 0;

  private static void due(String what, int got, int want) {
    asked++;
    if (got == want) return;
    wrong++;
    System.out.println("promise " + promise + ": " + what + " answered " + got + ", due is " + want);
  }

  public static void main(String[] args) {
    Runnable[] promises = {
      PromiseTest::newObject, PromiseTest::page, PromiseTest::seen, PromiseTest::good, PromiseTest::size,
      PromiseTest::told, PromiseTest::bond, PromiseTest::extra, PromiseTest::set, PromiseTest::type,
      PromiseTest::book, PromiseTest::count, PromiseTest::choose, PromiseTest::plan, PromiseTest::brings,
      PromiseTest::worth, PromiseTest::breaks, PromiseTest::square, PromiseTest::judge, PromiseTest::fits,
      PromiseTest::best, PromiseTest::take, PromiseTest::squares, PromiseTest::bound, PromiseTest::steps,
      PromiseTest::more, PromiseTest::less, PromiseTest::through, PromiseTest::mended, PromiseTest::year,
      PromiseTest::learnt, PromiseTest::image, PromiseTest::restore, PromiseTest::sheet, PromiseTest::drop,
      PromiseTest::item};
    for (Runnable each : promises) {
      promise++;
      int before = asked;
      each.run();
      if (asked == before) due("no question was asked", 0, 1);
    }
    System.out.println(asked + " answers of " + promise + " promises, " + wrong + " wrong");
    if (wrong > 0) System.exit(1);
  }

  // ---- helpers

  private static void type(GoodsBook x, String text) {
    for (int at = 0; at < text.length(); at += 8) {
      int end = Math.min(at + 8, text.length());
      long w = 0;
      for (int i = at; i < end; i++) w = w << 8 | text.charAt(i);
      due("type of '" + text.substring(at, end) + "'", x.type(w, end - at), end);
    }
  }

  private static int read(GoodsBook x, String text) {
    type(x, text);
    return x.book();
  }

  /** A book by its text, each clause one of its own, so that there may be more than twelve. */
  private static GoodsBook of(String text) {
    GoodsBook x = new GoodsBook();
    for (String clause : text.split(";")) due("book of '" + clause + "'", read(x, clause), 1);
    return x;
  }

  private static void plan(GoodsBook x, int... choices) {
    for (int good = 0; good < choices.length; good++) x.choose(good, choices[good]);
  }

  private static String bestOf(GoodsBook x) {
    StringBuilder row = new StringBuilder();
    for (int good = 0; good < x.count(1); good++) row.append(x.best(good));
    return row.toString();
  }

  private static String stepsOf(GoodsBook x) {
    StringBuilder row = new StringBuilder();
    for (int good = 0; good < x.count(1); good++) row.append(x.steps(good));
    return row.toString();
  }

  private static String mendedOf(GoodsBook x, int out) {
    StringBuilder row = new StringBuilder();
    for (int good = 0; good < x.count(1); good++) row.append(x.mended(out, good));
    return row.toString();
  }

  private static void dueRow(String what, String got, String want) {
    due(what + " " + got + " (due is " + want + ")", got.equals(want) ? 1 : 0, 1);
  }

  // ---- 1 pages, goods, bonds

  private static void newObject() {
    GoodsBook x = new GoodsBook();
    for (int what = 0; what <= 4; what++) due("count(" + what + ")", x.count(what), 0);
    due("worth()", x.worth(), 0);
    due("told(0, 0)", x.told(0, 0), BAD);
    due("seen(0, 0)", x.seen(0, 0), BAD);
    due("set(0, 5): LEADS at first", x.set(0, 5), 5);
    due("set(1, 0): COST at first", x.set(1, 0), 0);
    due("set(2, 0): POST at first", x.set(2, 0), 0);
    for (int sheet = 0; sheet < 4; sheet++) due("drop(" + sheet + ")", x.drop(sheet), NULL);
    due("restore()", x.restore(), NONE);
    due("take()", x.take(), 0);
    GoodsBook other = new GoodsBook();
    x.page(3);
    due("another object has pages of its own", other.count(0), 0);
  }

  private static void page() {
    GoodsBook x = new GoodsBook();
    due("page(-1)", x.page(-1), BAD);
    due("page(61)", x.page(61), BAD);
    due("page(0)", x.page(0), 0);
    due("page(60)", x.page(60), 1);
    due("page(7)", x.page(7), 2);
    due("page(7), a fourth", x.page(7), FULL);
    due("page(61), a fourth", x.page(61), BAD);
    due("page(LEAST)", x.page(LEAST), BAD);
    due("count(0)", x.count(0), 3);
    due("seen(2, 8)", x.seen(2, 8), 7);
  }

  private static void seen() {
    GoodsBook x = new GoodsBook();
    x.page(5);
    x.page(6);
    due("seen(0, 60)", x.seen(0, 60), 5);
    due("seen(0, 0)", x.seen(0, 0), 60);
    due("seen(0, 61)", x.seen(0, 61), BAD);
    due("seen(0, -1)", x.seen(0, -1), BAD);
    due("seen(2, 1)", x.seen(2, 1), BAD);
    due("seen(-1, 1)", x.seen(-1, 1), BAD);
    due("seen(MOST, 1)", x.seen(MOST, 1), BAD);
    due("seen(0, 1)", x.seen(0, 1), 0);
    due("seen(1, 1)", x.seen(1, 1), 6);
    x.good(0, 0);
    x.size(0, 0, 1, 1, 10);
    due("best(-1)", x.best(-1), 10);
    x.seen(1, 2);
    due("best(-1) behind seen(1, 2)", x.best(-1), 20);
  }

  private static void good() {
    GoodsBook x = new GoodsBook();
    due("good(-1, 0)", x.good(-1, 0), BAD);
    due("good(4, 0)", x.good(4, 0), BAD);
    due("good(0, -1)", x.good(0, -1), BAD);
    due("good(0, 4)", x.good(0, 4), BAD);
    for (int i = 0; i < 6; i++) due("good " + i, x.good(i % 4, 3 - i % 4), i);
    due("a seventh", x.good(0, 0), FULL);
    due("a wrong seventh", x.good(0, 4), BAD);
    int[] fresh = {1, 2, 1, 1, 0, 1, 1, 0};
    for (int what = 0; what < 8; what++) due("told(5, " + what + ")", x.told(5, what), fresh[what]);
    due("count(1)", x.count(1), 6);
    due("count(4)", x.count(4), 0);
  }

  private static void size() {
    GoodsBook x = new GoodsBook();
    due("size of none", x.size(0, 0, 1, 1, 1), BAD);
    x.good(0, 0);
    due("size(0, 0, 4, 1, 999)", x.size(0, 0, 4, 1, 999), 0);
    due("size(0, 1, 1, 4, 5)", x.size(0, 1, 1, 4, 5), 0);
    due("size(0, 0, 2, 3, 0)", x.size(0, 0, 2, 3, 0), 999);
    int[][] bad = {{0, 2, 1, 1, 1}, {0, -1, 1, 1, 1}, {0, 0, 0, 1, 1}, {0, 0, 5, 1, 1}, {0, 0, 1, 0, 1},
      {0, 0, 1, 5, 1}, {0, 0, 1, 1, -1}, {0, 0, 1, 1, 1000}, {1, 0, 1, 1, 1}, {-1, 0, 1, 1, 1}, {LEAST, 0, 1, 1, 1}};
    for (int[] b : bad) due("size, wrong", x.size(b[0], b[1], b[2], b[3], b[4]), BAD);
    due("what was refused changed nothing", x.size(0, 0, 2, 3, 7), 0);
    due("SIZE 1 is another", x.size(0, 1, 1, 4, 6), 5);
    x.page(1);
    due("fits(1)", x.fits(1), 1);
    x.good(0, 0);
    x.size(1, 0, 4, 4, 1);
    due("fits(4), 2 by 3 and 4 by 4", x.fits(4), 0);
    x.size(1, 0, 4, 1, 1);
    due("fits(4), 2 by 3 and 4 by 1", x.fits(4), 1);
  }

  private static void told() {
    GoodsBook x = new GoodsBook();
    x.good(2, 3);
    x.size(0, 0, 1, 2, 34);
    x.size(0, 1, 4, 3, 987);
    int[] facts = {2, 3, 1, 2, 34, 4, 3, 987};
    for (int what = 0; what < 8; what++) due("told(0, " + what + ")", x.told(0, what), facts[what]);
    due("told(0, -1)", x.told(0, -1), BAD);
    due("told(0, 8)", x.told(0, 8), BAD);
    due("told(1, 0)", x.told(1, 0), BAD);
    due("told(-1, 0)", x.told(-1, 0), BAD);
    due("told(MOST, MOST)", x.told(MOST, MOST), BAD);
  }

  private static void bond() {
    GoodsBook x = new GoodsBook();
    x.good(0, 0);
    x.good(0, 0);
    int[][] bad = {{-1, 0, 1, 0}, {6, 0, 1, 0}, {0, 0, 0, 1}, {0, 0, 2, 1}, {0, 2, 0, 1}, {0, -1, 0, 1}, {0, 0, -1, 1},
      {0, 0, 1, 100}, {0, 0, 1, -100}, {2, 0, 1, 100}, {3, 0, 1, 1}, {4, 0, 1, -1}, {5, 0, 1, 99}, {0, 0, 1, LEAST}};
    for (int[] b : bad) due("bond, wrong", x.bond(b[0], b[1], b[2], b[3]), BAD);
    int[][] fine = {{0, 0, 1, 99}, {0, 1, 0, -99}, {1, 0, 1, 5}, {2, 0, 1, 0}, {3, 0, 1, 0}, {4, 1, 0, 0}, {5, 0, 1, 0}};
    for (int i = 0; i < fine.length; i++) due("bond " + i, x.bond(fine[i][0], fine[i][1], fine[i][2], fine[i][3]), i);
    for (int i = fine.length; i < 12; i++) due("bond " + i, x.bond(0, 0, 1, 1), i);
    due("a thirteenth", x.bond(0, 0, 1, 1), FULL);
    due("a wrong thirteenth", x.bond(0, 1, 1, 1), BAD);
    due("count(2)", x.count(2), 12);
  }

  private static void extra() {
    GoodsBook x = new GoodsBook();
    due("extra of none", x.extra(0, 0), LESS + BAD);
    x.good(0, 0);
    x.good(0, 0);
    x.bond(0, 0, 1, -7);
    x.bond(3, 0, 1, 0);
    due("extra(0, 99)", x.extra(0, 99), -7);
    due("extra(0, -99)", x.extra(0, -99), 99);
    due("extra(0, 100)", x.extra(0, 100), LESS + BAD);
    due("extra(0, -100)", x.extra(0, -100), LESS + BAD);
    due("extra(0, 1)", x.extra(0, 1), -99);
    due("extra(1, 0)", x.extra(1, 0), LESS + CAST);
    due("extra(1, 100)", x.extra(1, 100), LESS + BAD);
    due("extra(2, 0)", x.extra(2, 0), LESS + BAD);
    due("extra(-1, 0)", x.extra(-1, 0), LESS + BAD);
    x.page(10);
    plan(x, 1, 1);
    due("worth()", x.worth(), 10);
    due("best(-1)", x.best(-1), 10);
    x.extra(0, 3);
    due("worth() of the new EXTRA", x.worth(), 30);
    due("best(-1) of the new EXTRA", x.best(-1), 30);
  }

  private static void set() {
    GoodsBook x = new GoodsBook();
    due("set(0, 99)", x.set(0, 99), 5);
    due("set(0, 0)", x.set(0, 0), 99);
    due("set(0, 100)", x.set(0, 100), BAD);
    due("set(0, -1)", x.set(0, -1), BAD);
    due("set(0, 1)", x.set(0, 1), 0);
    for (int what = 1; what <= 2; what++) {
      due("set(" + what + ", 999)", x.set(what, 999), 0);
      due("set(" + what + ", 1000)", x.set(what, 1000), BAD);
      due("set(" + what + ", -1)", x.set(what, -1), BAD);
      due("set(" + what + ", 0)", x.set(what, 0), 999);
    }
    due("set(3, 0)", x.set(3, 0), BAD);
    due("set(-1, 0)", x.set(-1, 0), BAD);
    due("set(LEAST, 0)", x.set(LEAST, 0), BAD);
    x.page(60);
    x.good(0, 0);
    x.size(0, 0, 1, 1, 9);
    due("best(-1)", x.best(-1), 540);
    x.set(1, 4);
    due("best(-1) less COST", x.best(-1), 300);
    x.set(2, 6);
    due("best(-1), COST and POST are more", x.best(-1), 0);
  }

  private static void type() {
    GoodsBook x = new GoodsBook();
    due("type(.., 0)", x.type(0x2020, 0), BAD);
    due("type(.., 9)", x.type(0x2020202020202020L, 9), BAD);
    due("type(.., -1)", x.type(0x20, -1), BAD);
    due("type(.., LEAST)", x.type(0x20, LEAST), BAD);
    due("a byte of 31", x.type(0x201f, 2), BAD);
    due("a byte of 127", x.type(0x7f20, 2), BAD);
    due("a byte above 127", x.type(-1L, 1), BAD);
    due("bytes above the n lowest do not matter", x.type(0xff00000000000070L, 1), 1);
    due("32 and 126", x.type(0x207e, 2), 3);
    due("book(), p and a sign", x.book(), -22);
    due("the highest comes first", read(x, "p12"), 1);
    due("seen(0, 0)", x.seen(0, 0), 12);
    for (int i = 1; i <= 14; i++) due("eight more", x.type(0x2020202020202020L, 8), 8 * i);
    due("nine are too many", x.type(0x202020202020201fL, 8), BAD);
    due("six", x.type(0x202020202020L, 6), 118);
    due("three are too many", x.type(0x202020L, 3), FULL);
    due("a wrong one is that first", x.type(0x20201fL, 3), BAD);
    due("two", x.type(0x2020L, 2), 120);
    due("one is too many", x.type(0x20L, 1), FULL);
    due("book() of blanks", x.book(), -140);
    due("and it is empty then", x.type(0x20L, 1), 1);
  }

  private static void book() {
    bookFaults();
    bookComes();
    GoodsBook x = of("p1;p2");
    due("not all have room", read(x, "p3;gp01x1=1,1x1=1;p4"), FULL);
    due("count(0)", x.count(0), 2);
    due("count(1)", x.count(1), 0);
    due("a FAULT is ahead of FULL", read(x, "p3;p4;p5;q"), -29);
    for (int i = 0; i < 5; i++) x.good(0, 0);
    due("goods without room", read(x, "gp01x1=1,1x1=1;gl11x1=1,1x1=1;faf+1"), FULL);
    due("count(1)", x.count(1), 5);
    for (int i = 0; i < 11; i++) x.bond(2, 0, 1, 1);
    due("bonds without room", read(x, "abn;bae-9"), FULL);
    due("count(2)", x.count(2), 11);
    due("room for one", read(x, "abn"), 1);
    due("the tape is empty", x.book(), -20);
  }

  private static void bookFaults() {
    GoodsBook x = new GoodsBook();
    String g = "gp01x1=1,1x1=1;";
    String[] texts = {"", " ", "  ", "q", "p", "p ", "p61", "p061", "p60 ", "p1 2", "p99999999999999999999", "p-1", ";p1", "p1;", "p1;;p1",
      "p1 ; ", "g", "gp", "gq0", "gp4", "gp00", "gp0 0", "gp05", "gp01", "gp01y", "gp01x0", "gp01x5", "gp01x1=", "gp01x1=1000", "gp01x1=1",
      "gp01x1=1;", "gp01x1=1,", "gp01x1=1,1x1=1,", "gp012x1=1", "a", "ab", g + "a", g + "aa", g + "ab", g + g + "ab", g + g + "abx",
      g + g + "abo", g + g + "abo1", g + g + "abo+", g + g + "abo-100", g + g + "abe+0x", g + g + "abn+1", g + g + "ac", g + g + "g", "P1",
      "p1;p1;p1;p1;p1;p1;p1;p1;p1;p1;p1;p1;", "p1:p2", g + g + "a`n", g + g + "`an", g + g + "abo +5 5"};
    int[] faults = {0, 1, 2, 0, 1, 2, 1, 1, -1, 3, 1, 1, 0, 3, 3,
      5, 1, 2, 1, 2, 3, 4, 3, 4, 4, 5, 5, 7, 7, 8,
      8, 9, 14, 4, 0, 0, 16, 16, 16, 32, 32,
      33, 33, 34, 34, 35, 33, 31, 31, 0,
      35, 2, 31, 30, 37};
    for (int i = 0; i < texts.length; i++) {
      if (faults[i] < 0) continue;
      due("book of '" + texts[i] + "'", read(x, texts[i]), -20 - faults[i]);
    }
    for (int what = 0; what < 4; what++) due("nothing came: count(" + what + ")", x.count(what), 0);
  }

  private static void bookComes() {
    GoodsBook x = new GoodsBook();
    due("a book", read(x, " p 0060;p0; g f 3 4 x 1 = 000999 , 2x3=0;gl0 1x1=5,1x2=6 ;abo-09;b a h;baf+99"), 7);
    int[] first = {3, 3, 4, 1, 999, 2, 3, 0};
    int[] second = {1, 0, 1, 1, 5, 1, 2, 6};
    for (int what = 0; what < 8; what++) {
      due("told(0, " + what + ")", x.told(0, what), first[what]);
      due("told(1, " + what + ")", x.told(1, what), second[what]);
    }
    due("seen(0, 60)", x.seen(0, 60), 60);
    due("seen(1, 1)", x.seen(1, 1), 0);
    due("extra(0, -9)", x.extra(0, -9), -9);
    due("extra(1, 0): AHEAD", x.extra(1, 0), LESS + CAST);
    due("extra(2, 1)", x.extra(2, 1), 99);
    plan(x, 1, 1);
    due("worth()", x.worth(), 999 * 60 + 5 * 60 + 5 * 60 - 9 * 60);
    due("more comes behind", read(x, "p7;abv;gr21x1=1,1x1=2;cae+1;abn"), 5);
    due("the PLAN stays", x.count(4), 2);
    due("breaks(0): b is to be ahead", x.breaks(0), 1);
    plan(x, 1, 0, 0);
    due("breaks(0): a needs b", x.breaks(0), 5);
    plan(x, 1, 2, 0);
    x.choose(1, 1);
    due("told(2, 1)", x.told(2, 1), 2);
    due("kinds p l r f", read(x, "gp01x1=1,1x1=1;gl01x1=1,1x1=1;gr01x1=1,1x1=1"), 3);
    due("told(3, 0)", x.told(3, 0), 0);
    due("told(4, 0)", x.told(4, 0), 1);
    due("told(5, 0)", x.told(5, 0), 2);
    GoodsBook y = new GoodsBook();
    due("twelve", read(y, "gp01x1=1,1x1=1;gp01x1=1,1x1=1;abn;abn;abn;abn;abn;abn;abn;abn;abn;abn"), 12);
  }

  private static void count() {
    GoodsBook x = of("p1;p2;gp01x1=1,1x1=1;gp01x1=1,1x1=1;gp01x1=1,1x1=1;abn;abv;bce+1;ach");
    x.year(0, 0, 1);
    x.choose(2, 4);
    x.choose(0, 1);
    int[] counts = {2, 3, 4, 1, 2};
    for (int what = 0; what <= 4; what++) due("count(" + what + ")", x.count(what), counts[what]);
    due("count(5)", x.count(5), BAD);
    due("count(-1)", x.count(-1), BAD);
    due("count(MOST)", x.count(MOST), BAD);
  }

  // ---- 2 plans

  private static void choose() {
    GoodsBook x = of("p1;gp01x1=1,1x1=1");
    due("choose(0, 2)", x.choose(0, 2), 0);
    due("choose(0, 3), a page that is not there", x.choose(0, 3), BAD);
    due("choose(0, 7)", x.choose(0, 7), BAD);
    due("choose(0, -1)", x.choose(0, -1), BAD);
    due("choose(1, 1)", x.choose(1, 1), BAD);
    due("choose(-1, 1)", x.choose(-1, 1), BAD);
    due("choose(0, 1)", x.choose(0, 1), 2);
    x.page(1);
    x.page(1);
    due("choose(0, 6)", x.choose(0, 6), 1);
    due("choose(0, 7)", x.choose(0, 7), BAD);
    due("choose(0, 0)", x.choose(0, 0), 6);
    due("choose(0, MOST)", x.choose(0, MOST), BAD);
    due("count(4)", x.count(4), 0);
  }

  private static void plan() {
    GoodsBook x = of("p1;p1;gp01x1=1,1x1=1;gp01x1=1,1x1=1");
    due("no sheet", x.plan(0, 0, 0), NULL);
    due("plan(4, 0, 0)", x.plan(4, 0, 0), BAD);
    due("plan(-1, 0, 0)", x.plan(-1, 0, 0), BAD);
    due("plan(0, 3, 0)", x.plan(0, 3, 0), BAD);
    due("plan(0, -1, 0)", x.plan(0, -1, 0), BAD);
    x.sheet(0, 0, 5);
    int[] items = {4, 0, 3, 5, -1};
    for (int i = 0; i < 5; i++) x.item(0, 0, i, items[i]);
    due("plan(0, 1, 9): CAST is ahead of INDEX", x.plan(0, 1, 9), CAST);
    due("plan(0, 0, 0)", x.plan(0, 0, 0), 1);
    due("choose(0, 4)", x.choose(0, 4), 4);
    due("plan(0, 0, 1)", x.plan(0, 0, 1), 1);
    due("choose(1, 3)", x.choose(1, 3), 3);
    due("plan(0, 0, 2), 5 is none", x.plan(0, 0, 2), NOT);
    due("plan(0, 0, 3), -1 is none", x.plan(0, 0, 3), NOT);
    due("plan(0, 0, 4), INDEX is ahead of NOT", x.plan(0, 0, 4), INDEX);
    due("plan(0, 0, 5)", x.plan(0, 0, 5), INDEX);
    due("plan(0, 0, -1)", x.plan(0, 0, -1), INDEX);
    due("plan(0, 0, MOST)", x.plan(0, 0, MOST), INDEX);
    due("plan(0, 0, LEAST)", x.plan(0, 0, LEAST), INDEX);
    due("it is as it was", x.choose(0, 0), 0);
    due("it is as it was", x.choose(1, 3), 3);
    x.page(1);
    due("plan(0, 0, 2), 5 is one now", x.plan(0, 0, 2), 2);
    due("steps of this PLAN", x.steps(-2), 0);
    due("mended of this PLAN", x.mended(0, 1), 5);
    for (int i = 0; i < 2; i++) x.item(0, 0, i, 0);
    due("another PLAN", x.plan(0, 0, 0), 0);
    due("steps of the other PLAN", x.steps(-2), 2);
    due("mended of the other PLAN", x.mended(0, 1), 0);
    GoodsBook none = new GoodsBook();
    none.sheet(1, 2, 0);
    due("no goods, no item is asked for", none.plan(1, 2, 0), 0);
  }

  private static void brings() {
    GoodsBook x = of("p30;p20;gp01x1=7,1x1=9;gl01x1=5,1x2=8;gr11x1=9,1x1=10;gr11x1=8,1x1=3;gr01x1=4,1x1=4;gf02x2=6,3x4=11");
    due("brings(-1)", x.brings(-1), BAD);
    due("brings(6)", x.brings(6), BAD);
    for (int good = 0; good < 6; good++) due("out: brings(" + good + ")", x.brings(good), NONE);
    plan(x, 1, 0, 0, 0, 0, 0);
    due("PLAIN", x.brings(0), 210);
    x.choose(0, 4);
    due("PLAIN, SIZE 1 on PAGE 1", x.brings(0), 180);
    x.choose(1, 3);
    due("LEAD with one other", x.brings(1), 5 * 20 + 5 * 20);
    x.choose(1, 1);
    due("LEAD with none", x.brings(1), 150);
    x.choose(1, 2);
    plan(x, 1, 2, 1);
    due("LEAD with two others", x.brings(1), 8 * 30 + 5 * 30 * 2);
    x.set(0, 7);
    due("LEAD with LEADS 7", x.brings(1), 8 * 30 + 7 * 30 * 2);
    due("RIVAL alone", x.brings(2), 270);
    x.choose(4, 1);
    due("RIVAL, one of another FAMILY in", x.brings(2), 270);
    x.choose(3, 3);
    due("RIVAL, one in elsewhere", x.brings(2), 135);
    due("the other", x.brings(3), 80);
    x.good(2, 0);
    GoodsBook y = of("p7;gr01x1=5,1x1=0;gr01x1=2,1x1=0;gr01x1=1,1x1=0");
    plan(y, 1, 1, 1);
    due("cut", y.brings(0), 11);
    due("cut", y.brings(1), 4);
    due("cut", y.brings(2), 2);
    x.choose(5, 2);
    plan(x, 0, 0, 0, 0, 0);
    due("FILLER with 12 squares", x.brings(5), 330);
    plan(x, 1, 1, 1, 1);
    due("FILLER with 16", x.brings(5), 660);
    plan(x, 1, 2, 1, 1);
    due("FILLER with 17", x.brings(5), 330);
    plan(x, 1, 3, 1, 1);
    due("FILLER with 15", x.brings(5), 330);
    x.size(5, 1, 4, 4, 11);
    plan(x, 0, 0, 0, 0, 0, 2);
    due("FILLER that fills by itself", x.brings(5), 660);
  }

  private static void worth() {
    GoodsBook x = of("p30;p20;p50;gp01x1=7,1x1=9;gp01x1=1,1x1=2;gp01x1=3,1x1=3");
    x.bond(0, 0, 1, 4);
    x.bond(1, 0, 1, 10);
    x.bond(2, 0, 1, -3);
    due("all out", x.worth(), 0);
    plan(x, 1, 1, 0);
    due("ON and ANYWHERE", x.worth(), 210 + 30 + 4 * 30 - 3 * 30);
    plan(x, 1, 3, 0);
    due("ANYWHERE with the lesser SEEN", x.worth(), 210 + 20 - 3 * 20);
    plan(x, 5, 3, 0);
    due("FACING", x.worth(), 350 + 20 + 10 * 20 - 3 * 20);
    plan(x, 3, 5, 0);
    due("FACING the other way", x.worth(), 140 + 50 + 10 * 20 - 3 * 20);
    plan(x, 5, 1, 0);
    due("0 and 2 do not face", x.worth(), 350 + 30 - 3 * 30);
    plan(x, 3, 3, 0);
    due("one page does not face itself", x.worth(), 140 + 20 + 4 * 20 - 3 * 20);
    plan(x, 3, 0, 0);
    due("one alone", x.worth(), 140);
    x.set(1, 2);
    due("COST", x.worth(), 140 - 120);
    x.set(2, 1);
    due("COST and POST", x.worth(), 140 - 120 - 60);
    plan(x, 3, 0, 6);
    due("two pages, two COSTS, one POST", x.worth(), 140 + 150 - 240 - 60);
    plan(x, 3, 1, 6);
    due("three pages, three COSTS, two POSTS", x.worth(), 140 + 30 + 150 - 3 * 20 - 360 - 120);
    plan(x, 0, 0, 0);
    due("no page, no COST", x.worth(), 0);
    plan(x, 2, 2, 2);
    due("one page, one COST", x.worth(), 270 + 60 + 90 + 4 * 30 - 3 * 30 - 120 - 60);
    x.bond(3, 0, 1, 0);
    due("NEEDS brings nothing", x.worth(), 270 + 60 + 90 + 4 * 30 - 3 * 30 - 120 - 60);
  }

  private static void breaks() {
    GoodsBook x = of("p1;p1;p1;gp01x1=1,4x4=1;gp01x1=1,1x1=1;abn;abv;abh");
    due("breaks(-1)", x.breaks(-1), BAD);
    due("breaks(2)", x.breaks(2), BAD);
    due("all out keeps all", x.breaks(0), NONE);
    due("all out fits", x.breaks(1), NONE);
    plan(x, 1, 0);
    due("NEEDS", x.breaks(0), 0);
    plan(x, 0, 1);
    due("b alone needs nothing", x.breaks(0), NONE);
    plan(x, 1, 1);
    due("NEVER", x.breaks(0), 1);
    plan(x, 5, 3);
    due("AHEAD", x.breaks(0), 2);
    plan(x, 3, 5);
    due("kept", x.breaks(0), NONE);
    plan(x, 2, 1);
    due("page 0 is too full", x.breaks(1), 0);
    plan(x, 6, 5);
    due("page 2 is too full", x.breaks(1), 2);
    plan(x, 6, 3);
    due("4 by 4 alone fits", x.breaks(1), NONE);
    GoodsBook y = of("p1;gp03x3=1,1x1=1;gp02x2=1,1x1=1");
    plan(y, 1, 1);
    due("13 squares that can't lie", y.breaks(1), 0);
    GoodsBook z = of("p1;gp01x1=1,1x1=1;gp01x1=1,1x1=1;abh");
    plan(z, 1, 1);
    due("one page is not AHEAD of itself", z.breaks(0), 0);
  }

  private static void square() {
    GoodsBook x = of("p1;p1;gp01x1=1,2x2=1;gp04x1=1,3x3=1;gp03x1=1,1x1=1;gp04x2=1,1x1=1");
    due("square(-1)", x.square(-1), BAD);
    due("square(4)", x.square(4), BAD);
    due("out", x.square(0), NOT);
    plan(x, 1, 1, 1, 1);
    due("the first at 0", x.square(0), 0);
    due("4 by 1 on the second line", x.square(1), 4);
    due("3 by 1 beside the first", x.square(2), 1);
    due("4 by 2 below", x.square(3), 8);
    plan(x, 1, 1, 1, 3);
    due("as if by itself", x.square(3), 0);
    plan(x, 2, 2, 0, 0);
    due("2 by 2 and 3 by 3 do not fit", x.square(0), NONE);
    due("nor the other", x.square(1), NONE);
    plan(x, 2, 4, 0, 0);
    due("on two pages they do", x.square(1), 0);
    GoodsBook y = of("p1;gp01x1=1,1x1=1;gp03x4=1,1x1=1;gp01x3=1,1x1=1");
    plan(y, 1, 1, 1);
    due("the first counts most", y.square(0), 0);
    due("3 by 4 leaves a line for the others", y.square(1), 1);
    due("1 by 3 below the first", y.square(2), 4);
    GoodsBook z = of("p1;gp01x1=1,1x1=1;gp04x3=1,1x1=1;gp04x1=1,1x1=1");
    plan(z, 1, 1, 0);
    due("square(0)", z.square(0), 0);
    due("square(1)", z.square(1), 4);
    plan(z, 1, 1, 1);
    due("17 squares", z.square(0), NONE);
    GoodsBook later = of("p1;gp01x1=1,1x1=1;gp04x2=1,1x1=1;gp02x2=1,1x1=1;gp01x2=1,1x1=1;gp01x1=1,1x1=1");
    plan(later, 1, 1, 1, 1, 1);
    due("1 by 1", later.square(0), 0);
    due("4 by 2", later.square(1), 8);
    due("2 by 2 has to leave 1 by 2 its place", later.square(2), 1);
    due("1 by 2", later.square(3), 3);
    due("the last 1 by 1", later.square(4), 4);
  }

  private static void judge() {
    GoodsBook x = of("p1;p1;gp02x2=1,1x1=1;gp03x1=1,1x1=1;gp01x1=1,1x1=1");
    x.sheet(1, 2, 4);
    due("judge(2, ..)", x.judge(2, 1, 2, 0), BAD);
    due("judge(-1, ..)", x.judge(-1, 1, 2, 0), BAD);
    due("judge(0, 4, ..)", x.judge(0, 4, 2, 0), BAD);
    due("judge(0, 1, 3, 0)", x.judge(0, 1, 3, 0), BAD);
    due("no sheet", x.judge(0, 0, 2, 0), NULL);
    due("another lane", x.judge(0, 1, 1, 0), CAST);
    due("nothing lies there", x.judge(0, 1, 2, 0), NONE);
    plan(x, 1, 3, 1);
    int[][] layings = {{0, 2}, {10, 0}, {11, 0}, {14, 0}, {0, 5}, {0, 16}, {0, -1}, {-1, 0}, {16, 0}, {0, LEAST}, {9, 8}};
    int[] judged = {NONE, NONE, 0, 0, 2, 2, 2, 0, 0, 2, NONE};
    for (int i = 0; i < layings.length; i++) {
      x.item(1, 2, 2, layings[i][0]);
      x.item(1, 2, 3, layings[i][1]);
      due("laying " + i, x.judge(0, 1, 2, 2), judged[i]);
    }
    x.item(1, 2, 3, 12);
    due("3 by 1 at 12", x.judge(1, 1, 2, 3), NONE);
    x.item(1, 2, 3, 13);
    due("3 by 1 at 13", x.judge(1, 1, 2, 3), NONE);
    x.item(1, 2, 3, 14);
    due("3 by 1 at 14", x.judge(1, 1, 2, 3), 1);
    due("an item that is not there", x.judge(1, 1, 2, 4), INDEX);
    due("the second is not there", x.judge(0, 1, 2, 3), INDEX);
    due("judge(.., -1)", x.judge(0, 1, 2, -1), INDEX);
    due("judge(.., MOST)", x.judge(0, 1, 2, MOST), INDEX);
    due("the state stays", x.count(4), 3);
  }

  private static void fits() {
    GoodsBook x = new GoodsBook();
    due("nothing fits", x.fits(0), 1);
    due("fits(1) of no goods", x.fits(1), BAD);
    x = of("gp04x4=1,2x4=1;gp01x1=1,2x4=1;gp03x3=1,1x2=1");
    int[] codes = {0, 1, 2, 3, 6, 4, 5, 8, 11, 9, 18, 20, 26, 15};
    int[] due = {1, 1, 1, 1, 1, 0, 1, 1, 0, 1, 1, 1, 0, 0};
    for (int i = 0; i < codes.length; i++) due("fits(" + codes[i] + ")", x.fits(codes[i]), due[i]);
    due("fits(27)", x.fits(27), BAD);
    due("fits(-1)", x.fits(-1), BAD);
    due("fits(MOST)", x.fits(MOST), BAD);
    due("fits(LEAST)", x.fits(LEAST), BAD);
    x = of("gp03x1=1,1x1=1;gp01x3=1,1x1=1;gp03x1=1,1x1=1;gp01x3=1,1x1=1;gp02x2=1,1x1=1;gp01x1=1,2x1=1");
    due("a wheel of four round 2 by 2", x.fits(1 + 3 + 9 + 27 + 81), 1);
    due("17 squares", x.fits(364), 0);
    due("728 is the last", x.fits(728), 1);
    due("729", x.fits(729), BAD);
  }

  // ---- 3 the best

  private static void best() {
    GoodsBook x = of("p60;gp03x3=9,1x1=1;gp02x2=5,1x1=2;gp01x1=3,1x1=3");
    due("best(-1)", x.best(-1), 60 * (9 + 2 + 3));
    dueRow("3 by 3 and 2 by 2 do not fit", bestOf(x), "121");
    due("best(-2)", x.best(-2), LESS + BAD);
    due("best(3)", x.best(3), LESS + BAD);
    due("best(LEAST)", x.best(LEAST), LESS + BAD);
    due("THE PLAN stays", x.count(4), 0);
    GoodsBook none = of("p0;p0;gp01x1=9,1x1=9;gp01x1=9,1x1=9");
    due("of like ones the first", none.best(-1), 0);
    dueRow("of like ones the first", bestOf(none), "00");
    GoodsBook like = of("p9;p9;gp01x1=1,1x1=1;gp04x4=5,4x4=5");
    dueRow("of like ones the first", bestOf(like), "13");
    GoodsBook needs = of("p10;p9;gp01x1=9,1x1=9;gp01x1=0,1x1=0;abn;abv;bah");
    dueRow("AHEAD: b is on page 0, a on page 1", bestOf(needs), "31");
    due("best(-1)", needs.best(-1), 81);
    GoodsBook rivals = of("p10;gr01x1=9,1x1=9;gr01x1=8,1x1=8");
    dueRow("two rivals bring less than one", bestOf(rivals), "10");
    GoodsBook leads = of("p10;p11;gl01x1=9,1x1=9;gp01x1=0,1x1=0");
    dueRow("a lead wants company", bestOf(leads), "33");
    due("best(-1)", leads.best(-1), 11 * 14);
    GoodsBook fill = of("p10;p12;gf03x4=9,4x2=9;gp04x1=1,1x4=1;gp01x4=1,1x1=0");
    due("a full page", fill.best(-1), 12 * 9 * 2 + 12 + 10);
    dueRow("a full page, of like ones the first", bestOf(fill), "313");
    due("none at all", new GoodsBook().best(-1), 0);
    GoodsBook extra = of("p60;p60;p60;gp01x1=0,1x1=0;gp01x1=0,1x1=0;abf+2;abo+1");
    dueRow("FACING", bestOf(extra), "35");
    extra.extra(0, -2);
    dueRow("ON", bestOf(extra), "11");
  }

  private static void take() {
    GoodsBook x = of("p10;p20;gp01x1=9,1x1=3;gp04x4=1,4x4=2");
    due("take()", x.take(), 200);
    due("count(4)", x.count(4), 2);
    due("choose(0, 0)", x.choose(0, 0), 3);
    due("choose(1, 0)", x.choose(1, 0), 2);
    due("take() again", x.take(), 200);
    due("worth()", x.worth(), 200);
    due("breaks(0)", x.breaks(0), NONE);
    due("steps(-2)", x.steps(-2), 0);
    due("none at all", new GoodsBook().take(), 0);
  }

  private static void squares() {
    GoodsBook x = of("p10;p0;gp04x3=30,2x2=14;gl02x3=20,1x1=1;gf03x2=19,4x1=18");
    due("squares(2, -1)", x.squares(2, -1), BAD);
    due("squares(-1, -1)", x.squares(-1, -1), BAD);
    due("squares(0, -3)", x.squares(0, -3), BAD);
    due("squares(0, 3)", x.squares(0, 3), BAD);
    // 4 + 6 + 6 squares for 14 + 20 + 19; 12 + 4 for 30 + 18 is less.
    due("the most", x.squares(0, -1), 530);
    due("of good 0", x.squares(0, 0), 2);
    due("of good 1", x.squares(0, 1), 1);
    due("of good 2", x.squares(0, 2), 1);
    // SIZE 0 of good 0 goes from 300 to 160 more for 8 squares: at 20 it is out of favour, and 16 are taken.
    due("the price", x.squares(0, -2), 20);
    due("unseen, the most", x.squares(1, -1), 0);
    due("unseen, the price", x.squares(1, -2), 0);
    for (int good = 0; good < 3; good++) due("unseen, good " + good, x.squares(1, good), 0);
    GoodsBook like = of("p1;gp01x1=5,2x1=5;gp04x4=7,4x3=5");
    due("like ones", like.squares(0, -1), 10);
    due("the first as a row", like.squares(0, 0), 1);
    due("the first as a row", like.squares(0, 1), 2);
    due("room enough: no price but 1, for 16 + 1 squares", like.squares(0, -2), 1);
    GoodsBook dear = of("p60;gp04x4=999,1x1=0;gp01x1=999,1x1=0");
    due("a dear square", dear.squares(0, -1), 59940);
    due("of like ones the first", dear.squares(0, 0), 0);
    due("of like ones the first", dear.squares(0, 1), 1);
    due("3747 lets 4 by 4 out", dear.squares(0, -2), 3747);
    GoodsBook none = of("p9");
    due("no goods: the most", none.squares(0, -1), 0);
    due("no goods: the price", none.squares(0, -2), 0);
    GoodsBook loose = of("p1;gp03x3=9,1x1=1;gp02x2=5,1x1=1");
    due("whether they fit or not", loose.squares(0, -1), 14);
  }

  private static void bound() {
    GoodsBook x = new GoodsBook();
    due("none", x.bound(), 0);
    x = of("p10;p20;gp01x1=3,4x4=2;gl04x4=1,4x4=2;gr04x4=3,1x1=4;gr01x1=5,1x1=5;gf01x1=6,1x1=1");
    int goods = 20 * (3 + (2 + 5 * 4) + 4 + 5 + 2 * 6);
    due("goods", x.bound(), goods);
    x.set(0, 1);
    goods -= 20 * 4 * 4;
    due("LEADS 1", x.bound(), goods);
    x.bond(0, 0, 1, 7);
    x.bond(1, 0, 1, 1);
    x.bond(2, 0, 1, -9);
    x.bond(3, 0, 1, 0);
    due("EXTRAS above 0 times 60", x.bound(), goods + 480);
    x.set(1, 9);
    x.set(2, 9);
    due("no COSTS", x.bound(), goods + 480);
    GoodsBook unseen = of("gp01x1=3,1x1=3;gp01x1=3,1x1=3;abe+1");
    due("no pages", unseen.bound(), 60);
  }

  private static void steps() {
    GoodsBook x = of("p10;p20;gp01x1=9,1x1=3;gp04x4=1,4x4=2");
    due("how many", x.steps(-2), 2);
    due("the WORTH", x.steps(-1), 200);
    dueRow("steps", stepsOf(x), "32");
    due("steps(-3)", x.steps(-3), LESS + BAD);
    due("steps(2)", x.steps(2), LESS + BAD);
    due("THE PLAN stays", x.count(4), 0);
    plan(x, 1, 4);
    due("changed round is no better, but out and in", x.steps(-1), 130);
    plan(x, 1, 2);
    due("not SOUND", x.steps(-1), LESS + NOT);
    due("not SOUND", x.steps(0), LESS + NOT);
    due("BAD is that first", x.steps(2), LESS + BAD);
    x.bond(3, 0, 1, 0);
    plan(x, 1, 0);
    due("a BOND is not kept", x.steps(-2), LESS + NOT);
    GoodsBook round = of("p10;p20;gp04x4=9,4x4=9;gp04x4=8,4x4=8");
    plan(round, 1, 3);
    due("changed round", round.steps(-1), 260);
    due("in one", round.steps(-2), 1);
    dueRow("changed round", stepsOf(round), "31");
    GoodsBook like = of("p10;p10;gp01x1=9,1x1=9");
    dueRow("of like ones the first", stepsOf(like), "1");
    GoodsBook two = of("p10;p10;gp01x1=9,1x1=9;gp01x1=9,1x1=9");
    due("two steps", two.steps(-2), 2);
    dueRow("of like ones the first", stepsOf(two), "11");
    GoodsBook stuck = of("p10;gp04x4=5,4x4=5;gp02x4=4,2x4=4;gp02x4=4,2x4=4");
    plan(stuck, 1, 0, 0);
    due("none betters", stuck.steps(-2), 0);
    due("the best is another", stuck.best(-1), 80);
    due("none at all", new GoodsBook().steps(-1), 0);
  }

  private static void more() {
    GoodsBook x = of("gp04x4=5,1x1=1;gp04x4=3,1x1=1");
    due("more(-1)", x.more(-1), LESS + BAD);
    due("more(61)", x.more(61), LESS + BAD);
    due("the first page", x.more(10), 50);
    x.page(10);
    due("a second", x.more(10), 30);
    due("a second that is seen better", x.more(20), 80);
    due("one that is not seen", x.more(0), 0);
    x.page(1);
    due("a third", x.more(60), 300 + 30 - 53);
    x.bond(1, 0, 1, 60);
    due("FACING with the third", x.more(60), 300 + 3 + 60 - 53);
    x.page(1);
    due("a fourth", x.more(60), LESS + FULL);
    due("a wrong fourth", x.more(61), LESS + BAD);
    due("count(0)", x.count(0), 3);
    due("none at all", new GoodsBook().more(60), 0);
  }

  private static void less() {
    GoodsBook x = of("p10;p20;gp04x4=5,1x1=1;gp04x4=3,1x1=1");
    due("less(-1)", x.less(-1), LESS + BAD);
    due("less(2)", x.less(2), LESS + BAD);
    due("less(0)", x.less(0), 100 - 130);
    due("less(1)", x.less(1), 50 - 130);
    GoodsBook y = of("p10;p20;p30;gp04x4=5,4x4=5;gp04x4=5,4x4=5;abf-3");
    // 2 and 1 face, so the best is 2 and 0 (200); without page 0 the others are 0 and 1 and do not face.
    due("best(-1)", y.best(-1), 200);
    due("which lie open together is by new numbers", y.less(0), 250 - 200);
    due("less(1)", y.less(1), 0);
    due("less(2)", y.less(2), 150 - 200);
    due("count(0)", y.count(0), 3);
    due("best(-1)", y.best(-1), 200);
    due("of none", new GoodsBook().less(0), LESS + BAD);
  }

  private static void through() {
    GoodsBook x = of("p10;p20;gl01x1=3,1x1=3;gp01x1=4,1x1=4;gr01x1=9,1x1=9;gr01x1=5,1x1=5;abo-7;ban");
    due("through(-1)", x.through(-1), LESS + BAD);
    due("through(4)", x.through(4), LESS + BAD);
    due("out", x.through(0), LESS + NONE);
    plan(x, 1, 1, 0, 0);
    due("LEAD: its EXTRA alone", x.through(0), -70);
    due("the one that is led", x.through(1), 50 - 70);
    plan(x, 0, 0, 1, 3);
    due("a rival takes from its like", x.through(2), 50 - 100);
    due("the other", x.through(3), 45 - 90);
    x.set(1, 1);
    due("COST goes with it", x.through(3), 45 - 90 - 60);
    plan(x, 1, 0, 1, 0);
    due("and not, if others stay", x.through(0), 0);
    due("THE PLAN stays", x.count(4), 2);
  }

  private static void mended() {
    GoodsBook x = of("p10;p20;gp01x1=9,1x1=9;gp01x1=5,1x1=5;gp04x4=2,1x1=1;ban;cav");
    due("mended(-1, -1)", x.mended(-1, -1), LESS + BAD);
    due("mended(3, -1)", x.mended(3, -1), LESS + BAD);
    due("mended(0, -3)", x.mended(0, -3), LESS + BAD);
    due("mended(0, 3)", x.mended(0, 3), LESS + BAD);
    due("all out: nothing to mend", x.mended(0, -2), 0);
    due("though more could be had", x.mended(0, -1), 0);
    plan(x, 3, 3, 1);
    due("b needs a, so it goes", x.mended(0, -2), 1);
    due("its WORTH", x.mended(0, -1), 20);
    dueRow("mended", mendedOf(x, 0), "001");
    due("without b nothing else", x.mended(1, -2), 0);
    dueRow("mended", mendedOf(x, 1), "301");
    due("its WORTH", x.mended(1, -1), 200);
    plan(x, 1, 1, 1);
    due("unsound: the fewest", x.mended(1, -2), 1);
    dueRow("unsound: the greatest WORTH of these", mendedOf(x, 1), "301");
    due("both signs", x.set(1, 9), 0);
    plan(x, 0, 0, 1);
    due("a loss stays, if least is moved", x.mended(0, -1), 20 - 540);
    due("the state stays", x.count(4), 1);
    GoodsBook like = of("p5;p5;gp01x1=1,1x1=1;gp01x1=1,1x1=1;gp04x4=1,4x4=1");
    plan(like, 1, 1, 1);
    dueRow("of like ones the first", mendedOf(like, 0), "013");
    due("in one", like.mended(0, -2), 1);
  }

  private static void year() {
    GoodsBook x = of("gp01x1=1,1x1=1");
    int[][] bad = {{1, 0, 0}, {-1, 0, 0}, {0, 2, 0}, {0, -1, 0}, {0, 0, -1}, {0, 0, 1000}, {LEAST, MOST, LEAST}};
    for (int[] b : bad) due("year, wrong", x.year(b[0], b[1], b[2]), BAD);
    for (int i = 0; i < 12; i++) due("year " + i, x.year(0, i % 2, i * 90), i);
    due("a thirteenth", x.year(0, 0, 999), FULL);
    due("a wrong thirteenth", x.year(0, 0, 1000), BAD);
    due("count(3)", x.count(3), 12);
  }

  private static void dueLesson(GoodsBook x, int good, int... lesson) {
    for (int what = 0; what < 4; what++) due("learnt(" + good + ", " + what + ")", x.learnt(good, what), lesson[what]);
  }

  private static void learnt() {
    GoodsBook x = new GoodsBook();
    due("of none", x.learnt(0, 0), BAD);
    for (int i = 0; i < 5; i++) x.good(0, 0);
    due("learnt(0, 4)", x.learnt(0, 4), BAD);
    due("learnt(0, -1)", x.learnt(0, -1), BAD);
    due("learnt(5, 0)", x.learnt(5, 0), BAD);
    due("no YEAR", x.learnt(0, 0), NOT);
    x.year(0, 0, 10);
    due("no YEAR of it", x.learnt(1, 3), NOT);
    dueLesson(x, 0, 0, 10, 0, 6);
    x.year(0, 1, 40);
    dueLesson(x, 0, 2, 10, 0, 0);
    x.year(1, 0, 10);
    x.year(1, 1, 20);
    dueLesson(x, 1, 1, 10, 0, 0);
    x.year(1, 0, 11);
    dueLesson(x, 1, 1, 10, 1, 0);
    x.year(2, 1, 7);
    dueLesson(x, 2, 0, 7, 0, 0);
    x.year(3, 0, 999);
    x.year(3, 0, 0);
    dueLesson(x, 3, 0, 0, 999, 6);
    x.year(4, 1, 999);
    x.year(4, 0, 999);
    dueLesson(x, 4, 0, 999, 0, 0);
    x.year(4, 1, 0);
    x.year(4, 1, 0);
    dueLesson(x, 4, 0, 0, 1998, 6);
    GoodsBook y = of("gp01x1=1,1x1=1");
    int[][] years = {{1, 999}, {0, 999}, {1, 0}, {1, 0}, {0, 8}};
    for (int[] each : years) y.year(0, each[0], each[1]);
    dueLesson(y, 0, 0, 8, 991 + 991 + 16, 0);
  }

  // ---- images and sheets

  private static void image() {
    GoodsBook x = of("p10;gp01x1=1,1x1=2");
    due("image()", x.image(), 1);
    x.page(20);
    due("image() again", x.image(), 1);
    x.page(30);
    x.restore();
    due("the last one counts", x.count(0), 2);
    due("of a new one", new GoodsBook().image(), 1);
  }

  private static void restore() {
    GoodsBook x = of("p10;gp01x1=1,1x1=2;gp01x1=3,1x1=4;abo+5");
    due("none", x.restore(), NONE);
    x.choose(0, 2);
    x.year(0, 0, 8);
    x.set(0, 6);
    x.sheet(0, 0, 3);
    x.image();
    due("best(-1)", x.best(-1), 110);
    x.page(20);
    x.seen(0, 1);
    x.good(3, 3);
    x.size(0, 1, 4, 4, 9);
    x.bond(3, 0, 1, 0);
    x.extra(0, -5);
    x.set(0, 7);
    x.set(1, 8);
    x.set(2, 9);
    x.choose(1, 4);
    x.year(1, 1, 9);
    x.sheet(0, 1, 2);
    x.sheet(2, 1, 4);
    type(x, "p12");
    due("best(-1)", x.best(-1) == 110 ? 1 : 0, 0);
    due("fits(5)", x.fits(5), 0);
    due("restore()", x.restore(), 1);
    int[] counts = {1, 2, 1, 1, 1};
    for (int what = 0; what <= 4; what++) due("count(" + what + ")", x.count(what), counts[what]);
    due("seen", x.seen(0, 10), 10);
    due("told(0, 5)", x.told(0, 5), 1);
    due("told(0, 7)", x.told(0, 7), 2);
    due("fits(5)", x.fits(5), 1);
    due("extra", x.extra(0, 5), 5);
    due("LEADS", x.set(0, 6), 6);
    due("COST", x.set(1, 0), 0);
    due("POST", x.set(2, 0), 0);
    due("choose(0, 2)", x.choose(0, 2), 2);
    due("choose(1, 0)", x.choose(1, 0), 0);
    due("learnt(0, 1)", x.learnt(0, 1), 8);
    due("learnt(1, 1)", x.learnt(1, 1), NOT);
    due("best(-1)", x.best(-1), 110);
    due("SHEETS stay", x.drop(0), 2);
    due("SHEETS stay", x.drop(2), 4);
    due("THE TAPE stays", x.type(' ', 1), 4);
    due("THE TAPE stays", x.book(), 1);
    due("the IMAGE stays", x.restore(), 1);
    due("count(0)", x.count(0), 1);
    due("a GOOD that comes now is out", x.good(0, 0), 2);
    due("choose(2, 0)", x.choose(2, 0), 0);
  }

  private static void sheet() {
    GoodsBook x = new GoodsBook();
    due("sheet(-1, 0, 0)", x.sheet(-1, 0, 0), BAD);
    due("sheet(4, 0, 0)", x.sheet(4, 0, 0), BAD);
    due("sheet(0, -1, 0)", x.sheet(0, -1, 0), BAD);
    due("sheet(0, 3, 0)", x.sheet(0, 3, 0), BAD);
    due("sheet(0, 0, 17)", x.sheet(0, 0, 17), BAD);
    due("sheet(0, 0, MOST)", x.sheet(0, 0, MOST), BAD);
    due("sheet(0, 0, -1)", x.sheet(0, 0, -1), SIZE);
    due("sheet(0, 0, LEAST)", x.sheet(0, 0, LEAST), SIZE);
    due("sheet(4, 0, -1): BAD is ahead of SIZE", x.sheet(4, 0, -1), BAD);
    due("drop(0)", x.drop(0), NULL);
    due("sheet(3, 2, 16)", x.sheet(3, 2, 16), 16);
    due("sheet(0, 0, 0)", x.sheet(0, 0, 0), 0);
    due("drop(0)", x.drop(0), 0);
    x.page(1);
    x.good(0, 0);
    x.item(3, 2, 5, 1);
    due("plan(3, 2, 5)", x.plan(3, 2, 5), 1);
    x.sheet(3, 2, 16);
    due("a new row", x.plan(3, 2, 5), 0);
    x.sheet(3, 1, 2);
    due("of another lane", x.plan(3, 2, 0), CAST);
    due("and length", x.plan(3, 1, 2), INDEX);
    x.sheet(3, 1, -1);
    due("what is refused changes nothing", x.drop(3), 2);
  }

  private static void drop() {
    GoodsBook x = new GoodsBook();
    due("drop(-1)", x.drop(-1), BAD);
    due("drop(4)", x.drop(4), BAD);
    due("drop(3)", x.drop(3), NULL);
    x.sheet(3, 0, 9);
    x.sheet(2, 0, 0);
    due("drop(3)", x.drop(3), 9);
    due("drop(3) again", x.drop(3), NULL);
    due("drop(2)", x.drop(2), 0);
    due("item", x.item(3, 0, 0, 1), NULL);
  }

  private static void item() {
    GoodsBook x = of("p1;p1;p1;gp01x1=1,1x1=1");
    due("item(0, 0, 0, 0)", x.item(0, 0, 0, 0), NULL);
    for (int lane = 0; lane < 3; lane++) x.sheet(lane, lane, 2);
    due("item(4, 0, 0, 0)", x.item(4, 0, 0, 0), BAD);
    due("item(-1, 0, 0, 0)", x.item(-1, 0, 0, 0), BAD);
    due("item(0, 3, 0, 0)", x.item(0, 3, 0, 0), BAD);
    due("item(3, -1, 0, 0)", x.item(3, -1, 0, 0), BAD);
    due("item(0, 1, 9, 0)", x.item(0, 1, 9, 0), CAST);
    due("item(0, 0, 2, 0)", x.item(0, 0, 2, 0), INDEX);
    due("item(0, 0, -1, 0)", x.item(0, 0, -1, 0), INDEX);
    due("item(0, 0, MOST, 0)", x.item(0, 0, MOST, 0), INDEX);
    due("item(0, 0, LEAST, 0)", x.item(0, 0, LEAST, 0), INDEX);
    due("a byte's lowest bits", x.item(0, 0, 1, 0x105), 1);
    due("are 5", x.plan(0, 0, 1), 1);
    due("are 5", x.choose(0, 0), 5);
    x.item(0, 0, 1, 0xff);
    due("with its sign, -1", x.plan(0, 0, 1), NOT);
    x.item(1, 1, 0, 0x10003);
    due("a short's are 3", x.plan(1, 1, 0), 1);
    due("a short's are 3", x.choose(0, 0), 3);
    x.item(1, 1, 0, 0x105);
    due("a short holds 261", x.plan(1, 1, 0), NOT);
    x.item(2, 2, 0, 0x10003);
    due("an int holds 65539", x.plan(2, 2, 0), NOT);
    x.item(2, 2, 1, 6);
    due("an int holds 6", x.plan(2, 2, 1), 1);
    due("choose(0, 0)", x.choose(0, 0), 6);
    x.item(1, 1, 1, 0x8000);
    x.choose(0, 1);
    due("a short with its sign", x.judge(0, 1, 1, 1), 0);
  }
}
