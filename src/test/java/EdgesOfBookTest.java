/** Promises 1 to 10 and 12, sentence by sentence: the ends of what is taken, nothing there yet, all room taken, refusals. */
public final class EdgesOfBookTest extends Edges {
  public static void main(String[] args) {
    newObject();
    page();
    seen();
    good();
    size();
    told();
    bond();
    extra();
    set();
    type();
    count();
    end();
  }

  private static void newObject() {
    says(1, "No PAGES, no GOODS.");
    for (int what = 0; what <= 4; what++) due("count(" + what + ")", new GoodsBook().count(what), 0);
    due("seen(0, 0)", new GoodsBook().seen(0, 0), BAD);
    due("told(0, 0)", new GoodsBook().told(0, 0), BAD);
    due("size(0, 0, 1, 1, 0)", new GoodsBook().size(0, 0, 1, 1, 0), BAD);
    due("choose(0, 0)", new GoodsBook().choose(0, 0), BAD);
    due("brings(0)", new GoodsBook().brings(0), BAD);
    due("square(0)", new GoodsBook().square(0), BAD);
    due("year(0, 0, 0)", new GoodsBook().year(0, 0, 0), BAD);
    due("learnt(0, 0)", new GoodsBook().learnt(0, 0), BAD);
    due("best(0)", new GoodsBook().best(0), LESS + BAD);
    due("steps(0)", new GoodsBook().steps(0), LESS + BAD);
    due("mended(0, -2)", new GoodsBook().mended(0, -2), LESS + BAD);
    due("through(0)", new GoodsBook().through(0), LESS + BAD);
    due("less(0)", new GoodsBook().less(0), LESS + BAD);
    due("squares(0, -1)", new GoodsBook().squares(0, -1), BAD);
    due("extra(0, 0)", new GoodsBook().extra(0, 0), LESS + BAD);
    says(1, "LEADS (0 .. 99; 5 at first), COST (0 .. 999; 0 at first), POST (0 .. 999; 0)");
    due("LEADS", new GoodsBook().set(0, 1), 5);
    due("COST", new GoodsBook().set(1, 1), 0);
    due("POST", new GoodsBook().set(2, 1), 0);
    says(1, "THE PLAN is what is told (all out at first)");
    due("choose(0, 0)", of("p1;gp01x1=1,1x1=1").choose(0, 0), 0);
    says(1, "sheets 0 .. 3: nothing (at first)");
    for (int sheet = 0; sheet < 4; sheet++) due("drop(" + sheet + ")", new GoodsBook().drop(sheet), NULL);
    says(1, "An object has all for itself");
    GoodsBook one = ALL.make();
    GoodsBook other = new GoodsBook();
    one.take();
    due("a new object beside a full one", look(other), look(new GoodsBook()));
  }

  private static void page() {
    says(2, "A PAGE: its number: PAGES 0 .. 2, as they come");
    GoodsBook x = new GoodsBook();
    for (int i = 0; i < 3; i++) due("page " + i, x.page(20 * i), i);
    for (int i = 0; i < 3; i++) due("seen of page " + i, x.seen(i, 1), 20 * i);
    says(2, "BAD: SEEN by 0 .. 60 sixtieths");
    range("page(v)", NEW, (y, v) -> y.page(v), 0, 60, BAD);
    range("page(v)", FEW, (y, v) -> y.page(v), 0, 60, BAD);
    due("seen least", of("p0").seen(0, 1), 0);
    due("seen most", of("p60").seen(0, 1), 60);
    says(2, "FULL: 3");
    refused("page(30), a fourth", ALL, y -> y.page(30), FULL);
    says(2, "of several the first that a call names: BAD, FULL");
    refused("page(61), a fourth", ALL, y -> y.page(61), BAD);
    refused("page(-1), a fourth", ALL, y -> y.page(-1), BAD);
  }

  private static void seen() {
    says(3, "SEEN of a PAGE: what it was.");
    GoodsBook x = of("p10;p20;p30");
    due("seen(2, 0)", x.seen(2, 0), 30);
    due("seen(2, 60)", x.seen(2, 60), 0);
    due("seen(2, 60) again", x.seen(2, 60), 60);
    due("seen(0, 1)", x.seen(0, 1), 10);
    due("seen(1, 1)", x.seen(1, 1), 20);
    says(3, "BAD");
    range("seen(0, v)", FEW, (y, v) -> y.seen(0, v), 0, 60, BAD);
    range("seen(v, 5), two pages", FEW, (y, v) -> y.seen(v, 5), 0, 1, BAD);
    range("seen(v, 5), three pages", ALL, (y, v) -> y.seen(v, 5), 0, 2, BAD);
    refused("seen(0, 5), no page", NEW, y -> y.seen(0, 5), BAD);
    refused("seen(2, 61), both wrong", FEW, y -> y.seen(2, 61), BAD);
  }

  private static void good() {
    says(4, "A GOOD: its number: GOODS 0 .. 5, as they come");
    GoodsBook x = new GoodsBook();
    for (int i = 0; i < 6; i++) due("good " + i, x.good(i % 4, i / 2), i);
    for (int i = 0; i < 6; i++) {
      due("KIND of " + i, x.told(i, 0), i % 4);
      due("FAMILY of " + i, x.told(i, 1), i / 2);
    }
    says(4, "(SIZES of 1 by 1 SQUARE, SALES 0)");
    int[] fresh = {3, 2, 1, 1, 0, 1, 1, 0};
    GoodsBook y = of("gp04x4=9,3x3=8");
    y.good(3, 2);
    for (int what = 0; what < 8; what++) due("told(1, " + what + ")", y.told(1, what), fresh[what]);
    GoodsBook again = of("gp04x4=9,3x3=8");
    again.image();
    add(again, "gp04x4=9,3x3=8");
    again.restore();
    again.good(3, 2);
    for (int what = 0; what < 8; what++) due("told(1, " + what + ") where another one was", again.told(1, what), fresh[what]);
    says(4, "all out at first: a new GOOD is out");
    GoodsBook in = of("p1;gp01x1=1,1x1=1");
    in.image();
    add(in, "gp01x1=1,1x1=1");
    plan(in, 1, 2);
    in.restore();
    in.good(0, 0);
    due("count(4) where one was in", in.count(4), 0);
    says(4, "BAD: KIND 0 .. 3, FAMILY 0 .. 3");
    range("good(v, 0)", NEW, (z, v) -> z.good(v, 0), 0, 3, BAD);
    range("good(0, v)", NEW, (z, v) -> z.good(0, v), 0, 3, BAD);
    range("good(v, 3)", FEW, (z, v) -> z.good(v, 3), 0, 3, BAD);
    range("good(3, v)", FEW, (z, v) -> z.good(3, v), 0, 3, BAD);
    says(4, "FULL: 6");
    refused("good(0, 0), a seventh", ALL, z -> z.good(0, 0), FULL);
    says(4, "of several the first that a call names: BAD, FULL");
    refused("good(4, 0), a seventh", ALL, z -> z.good(4, 0), BAD);
    refused("good(0, -1), a seventh", ALL, z -> z.good(0, -1), BAD);
  }

  private static void size() {
    says(5, "A SIZE of a GOOD: SALE that was.");
    GoodsBook x = of("gp01x1=5,1x1=6;gp01x1=7,1x1=8");
    due("size(1, 1, 4, 3, 999)", x.size(1, 1, 4, 3, 999), 8);
    due("size(1, 1, 2, 1, 0)", x.size(1, 1, 2, 1, 0), 999);
    due("size(1, 0, 3, 4, 1)", x.size(1, 0, 3, 4, 1), 7);
    due("size(0, 1, 1, 1, 1)", x.size(0, 1, 1, 1, 1), 6);
    due("size(0, 0, 1, 1, 1)", x.size(0, 0, 1, 1, 1), 5);
    int[] told = {0, 0, 3, 4, 1, 2, 1, 0};
    for (int what = 0; what < 8; what++) due("told(1, " + what + ")", x.told(1, what), told[what]);
    says(5, "BAD: so WIDE, so HIGH (1 .. 4 SQUARES each), and a SALE (0 .. 999)");
    range("size(2, 1, v, 4, 999)", FEW, (y, v) -> y.size(2, 1, v, 4, 999), 1, 4, BAD);
    range("size(2, 1, 4, v, 999)", FEW, (y, v) -> y.size(2, 1, 4, v, 999), 1, 4, BAD);
    range("size(2, 1, 4, 4, v)", FEW, (y, v) -> y.size(2, 1, 4, 4, v), 0, 999, BAD);
    range("size(0, 0, v, 1, 0)", ALL, (y, v) -> y.size(0, 0, v, 1, 0), 1, 4, BAD);
    range("size(0, 0, 1, v, 0)", ALL, (y, v) -> y.size(0, 0, 1, v, 0), 1, 4, BAD);
    range("size(0, 0, 1, 1, v)", ALL, (y, v) -> y.size(0, 0, 1, 1, v), 0, 999, BAD);
    says(5, "BAD: a GOOD that there is, SIZES 0 and 1");
    range("size(v, 0, 2, 2, 5), three goods", FEW, (y, v) -> y.size(v, 0, 2, 2, 5), 0, 2, BAD);
    range("size(v, 0, 2, 2, 5), six goods", ALL, (y, v) -> y.size(v, 0, 2, 2, 5), 0, 5, BAD);
    range("size(1, v, 2, 2, 5)", FEW, (y, v) -> y.size(1, v, 2, 2, 5), 0, 1, BAD);
    refused("size(0, 0, 1, 1, 1), no good", NEW, y -> y.size(0, 0, 1, 1, 1), BAD);
    says(5, "A SIZE counts at once for what is asked behind it");
    GoodsBook y = planned("p1;gp01x1=5,1x1=6;gp04x3=7,1x1=8", 1, 1);
    due("breaks(1)", y.breaks(1), NONE);
    due("fits(4)", y.fits(4), 1);
    due("best(-1)", y.best(-1), 14);
    y.size(0, 0, 1, 2, 9);
    due("breaks(1), larger", y.breaks(1), 0);
    due("fits(4), larger", y.fits(4), 0);
    due("best(-1), larger", y.best(-1), 17);
    due("squares(0, -1), larger", y.squares(0, -1), 17);
    due("bound(), larger", y.bound(), 17);
  }

  private static void told() {
    says(6, "Of a GOOD: 0 KIND, 1 FAMILY; of SIZE 0: 2 WIDE, 3 HIGH, 4 SALE; of SIZE 1: 5, 6, 7.");
    GoodsBook x = of("gp01x2=3,2x3=4;gl13x4=5,4x1=6;gr24x4=999,1x1=0;gf31x1=0,4x4=999");
    int[][] facts = {{0, 0, 1, 2, 3, 2, 3, 4}, {1, 1, 3, 4, 5, 4, 1, 6}, {2, 2, 4, 4, 999, 1, 1, 0}, {3, 3, 1, 1, 0, 4, 4, 999}};
    for (int g = 0; g < 4; g++) {
      for (int what = 0; what < 8; what++) due("told(" + g + ", " + what + ")", x.told(g, what), facts[g][what]);
    }
    says(6, "BAD");
    range("told(2, v)", FEW, (y, v) -> y.told(2, v), 0, 7, BAD);
    range("told(v, 0), three goods", FEW, (y, v) -> y.told(v, 0), 0, 2, BAD);
    range("told(v, 7), six goods", ALL, (y, v) -> y.told(v, 7), 0, 5, BAD);
    refused("told(0, 0), no good", NEW, y -> y.told(0, 0), BAD);
  }

  private static void bond() {
    says(7, "A BOND: its number: BONDS 0 .. 11, as they come");
    GoodsBook x = of("gp01x1=1,1x1=1;gp01x1=1,1x1=1");
    for (int i = 0; i < 12; i++) due("bond " + i, x.bond(i % 3, i % 2, 1 - i % 2, 9 * i), i);
    for (int i = 0; i < 12; i++) due("extra of bond " + i, x.extra(i, 0), 9 * i);
    says(7, "BAD: of KINDS 0 .. 5");
    range("bond(v, 0, 1, 0)", FEW, (y, v) -> y.bond(v, 0, 1, 0), 0, 5, BAD);
    says(7, "BAD: between a GOOD a and another one b");
    range("bond(0, v, 1, 5)", FEW, (y, v) -> v == 1 ? 0 : y.bond(0, v, 1, 5), 0, 2, BAD);
    range("bond(0, 1, v, 5)", FEW, (y, v) -> v == 1 ? 0 : y.bond(0, 1, v, 5), 0, 2, BAD);
    refused("bond(0, 0, 1, 5), no good", NEW, y -> y.bond(0, 0, 1, 5), BAD);
    due("bond(0, 0, 1, 5), one good", of("gp01x1=1,1x1=1").bond(0, 0, 1, 5), BAD);
    due("bond(0, 1, 0, 5), one good", of("gp01x1=1,1x1=1").bond(0, 1, 0, 5), BAD);
    says(7, "BAD: also a is b");
    for (int g = 0; g < 3; g++) {
      int same = g;
      refused("bond(0, " + g + ", " + g + ", 5)", FEW, y -> y.bond(0, same, same, 5), BAD);
      refused("bond(5, " + g + ", " + g + ", 0)", FEW, y -> y.bond(5, same, same, 0), BAD);
    }
    says(7, "with an EXTRA (-99 .. 99): KINDS 0 .. 2");
    for (int kind = 0; kind < 3; kind++) {
      int k = kind;
      range("bond(" + kind + ", 0, 2, v)", FEW, (y, v) -> y.bond(k, 0, 2, v), -99, 99, BAD);
      GoodsBook y = FEW.make();
      due("bond of -99", y.bond(k, 0, 2, -99), 2);
      due("it is -99", y.extra(2, 0), -99);
      due("bond of 99", y.bond(k, 0, 2, 99), 3);
      due("it is 99", y.extra(3, 0), 99);
    }
    says(7, "(EXTRA 0, if it is of KIND 3 .. 5)");
    for (int kind = 3; kind < 6; kind++) {
      int k = kind;
      range("bond(" + kind + ", 0, 2, v)", FEW, (y, v) -> y.bond(k, 0, 2, v), 0, 0, BAD);
    }
    says(7, "FULL: 12");
    refused("bond(0, 0, 1, 5), a thirteenth", ALL, y -> y.bond(0, 0, 1, 5), FULL);
    refused("bond(3, 0, 1, 0), a thirteenth", ALL, y -> y.bond(3, 0, 1, 0), FULL);
    says(7, "of several the first that a call names: BAD, FULL");
    refused("bond(6, 0, 1, 0), a thirteenth", ALL, y -> y.bond(6, 0, 1, 0), BAD);
    refused("bond(0, 6, 1, 0), a thirteenth", ALL, y -> y.bond(0, 6, 1, 0), BAD);
    refused("bond(0, 1, 1, 0), a thirteenth", ALL, y -> y.bond(0, 1, 1, 0), BAD);
    refused("bond(0, 0, 1, 100), a thirteenth", ALL, y -> y.bond(0, 0, 1, 100), BAD);
    refused("bond(4, 0, 1, 1), a thirteenth", ALL, y -> y.bond(4, 0, 1, 1), BAD);
  }

  private static void extra() {
    says(8, "EXTRA of a BOND becomes another: what it was.");
    GoodsBook x = planned("p10;gp01x1=0,1x1=0;gp01x1=0,1x1=0;abo+1;abe-2", 1, 1);
    due("extra(1, 99)", x.extra(1, 99), -2);
    due("worth()", x.worth(), 1000);
    due("extra(1, -99)", x.extra(1, -99), 99);
    due("worth()", x.worth(), -980);
    due("extra(0, 0)", x.extra(0, 0), 1);
    due("extra(0, 0) again", x.extra(0, 0), 0);
    says(8, "BAD less 1000000000");
    range("extra(0, v)", FEW, (y, v) -> y.extra(0, v), -99, 99, LESS + BAD);
    range("extra(v, 5), twelve bonds", ALL, (y, v) -> y.extra(v, 5), 0, 11, LESS + BAD);
    refused("extra(2, 5), two bonds", FEW, y -> y.extra(2, 5), LESS + BAD);
    refused("extra(0, 5), no bond", NEW, y -> y.extra(0, 5), LESS + BAD);
    says(8, "CAST less that: it has none");
    refused("extra(1, 5), NEEDS", FEW, y -> y.extra(1, 5), LESS + CAST);
    refused("extra(1, 0), NEEDS", FEW, y -> y.extra(1, 0), LESS + CAST);
    refused("extra(3, 5), NEVER", ALL, y -> y.extra(3, 5), LESS + CAST);
    refused("extra(4, 5), AHEAD", ALL, y -> y.extra(4, 5), LESS + CAST);
    says(8, "of several the first that a call names: BAD, CAST");
    refused("extra(1, 100), NEEDS", FEW, y -> y.extra(1, 100), LESS + BAD);
    refused("extra(1, -100), NEEDS", FEW, y -> y.extra(1, -100), LESS + BAD);
  }

  private static void set() {
    says(9, "LEADS (0), COST (1), POST (2): what it was.");
    GoodsBook x = new GoodsBook();
    int[] first = {5, 0, 0};
    int[] most = {99, 999, 999};
    for (int what = 0; what < 3; what++) {
      due("set(" + what + ", most)", x.set(what, most[what]), first[what]);
      due("set(" + what + ", 0)", x.set(what, 0), most[what]);
      due("set(" + what + ", 0) again", x.set(what, 0), 0);
    }
    says(9, "BAD: LEADS (0 .. 99), COST (0 .. 999), POST (0 .. 999)");
    for (int what = 0; what < 3; what++) {
      int w = what;
      range("set(" + what + ", v)", FEW, (y, v) -> y.set(w, v), 0, most[what], BAD);
      range("set(" + what + ", v)", NEW, (y, v) -> y.set(w, v), 0, most[what], BAD);
    }
    range("set(v, 9)", FEW, (y, v) -> y.set(v, 9), 0, 2, BAD);
    says(9, "What is set counts at once for what is asked behind it");
    GoodsBook y = planned("p60;gl01x1=1,1x1=1;gp01x1=0,1x1=0", 1, 1);
    due("best(-1)", y.best(-1), 60 + 300);
    y.set(0, 99);
    due("best(-1), LEADS 99", y.best(-1), 60 + 99 * 60);
    due("worth(), LEADS 99", y.worth(), 60 + 99 * 60);
    due("bound(), LEADS 99", y.bound(), 60 + 99 * 60);
    y.set(1, 99);
    due("best(-1), COST 99", y.best(-1), 60);
    y.set(2, 1);
    due("best(-1), POST 1, too", y.best(-1), 0);
    due("worth(), COST and POST", y.worth(), 0);
    y.set(2, 2);
    due("worth(), POST 2", y.worth(), -60);
    due("best(-1): all out is worth more", y.best(-1), 0);
    due("best(0)", y.best(0), 0);
  }

  private static void type() {
    says(10, "The n lowest bytes (1 .. 8) of w, of these the highest first, come behind THE TAPE");
    GoodsBook x = new GoodsBook();
    due("type of 'p', 1", x.type('p', 1), 1);
    due("type of '60', 2", x.type('6' << 8 | '0', 2), 3);
    due("book()", x.book(), 1);
    due("seen", x.seen(0, 0), 60);
    for (int n = 1; n <= 8; n++) {
      GoodsBook y = new GoodsBook();
      String text = "p0000012".substring(0, n);
      long w = 0;
      for (int i = 0; i < n; i++) w = w << 8 | text.charAt(i);
      due("type, " + n, y.type(w, n), n);
      due("book of '" + text + "'", y.book(), n == 1 ? -21 : 1);
      if (n > 1) due("seen", y.seen(0, 0), n == 8 ? 12 : n == 7 ? 1 : 0);
    }
    says(10, "bytes above the n lowest do not count, the ends of long");
    due("type(Long.MIN_VALUE | ' ', 1)", new GoodsBook().type(Long.MIN_VALUE | ' ', 1), 1);
    due("type(-1 and ' ', 1)", new GoodsBook().type(-256L | ' ', 1), 1);
    due("type(.., 7) below 255", new GoodsBook().type(0xff20202020202020L, 7), 7);
    refused("type(.., 8) with 255", FEW, y -> y.type(0xff20202020202020L, 8), BAD);
    refused("type(Long.MAX_VALUE, 8)", FEW, y -> y.type(Long.MAX_VALUE, 8), BAD);
    refused("type(Long.MIN_VALUE, 8)", FEW, y -> y.type(Long.MIN_VALUE, 8), BAD);
    refused("type(Long.MIN_VALUE, 1)", FEW, y -> y.type(Long.MIN_VALUE, 1), BAD);
    refused("type(-1, 8)", FEW, y -> y.type(-1L, 8), BAD);
    refused("type(0, 1)", FEW, y -> y.type(0, 1), BAD);
    says(10, "BAD: n");
    range("type(eight blanks, v)", FEW, (y, v) -> y.type(0x2020202020202020L, v), 1, 8, BAD);
    range("type(eight blanks, v)", NEW, (y, v) -> y.type(0x2020202020202020L, v), 1, 8, BAD);
    says(10, "BAD: a byte not 32 .. 126");
    for (int n = 1; n <= 8; n++) {
      for (int at = 0; at < n; at++) {
        for (int b : new int[] {31, 32, 126, 127, 128, 160, 254, 255, 0}) {
          long w = 0x2020202020202020L & ~(255L << 8 * at) | (long) b << 8 * at;
          due("type, byte " + at + " of " + n + " is " + b, new GoodsBook().type(w, n), b >= 32 && b <= 126 ? n : BAD);
        }
      }
    }
    refused("the last byte is 31", FEW, y -> y.type(0x20201fL, 3), BAD);
    refused("the first byte is 127", FEW, y -> y.type(0x7f2020L, 3), BAD);
    says(10, "FULL: 120");
    for (int n = 1; n <= 8; n++) {
      int many = n;
      refused("type, " + n + " behind 120", ALL, y -> y.type(0x2020202020202020L, many), FULL);
      GoodsBook y = new GoodsBook();
      Edges.type(y, " ".repeat(120 - n));
      if (n < 8) due(n + 1 + " behind " + (120 - n), y.type(0x2020202020202020L, n + 1), FULL);
      due(n + " behind " + (120 - n), y.type(0x2020202020202020L, n), 120);
      due("one more", y.type(' ', 1), FULL);
      due("book()", y.book(), -140);
      due("there is room again", y.type(' ', 1), 1);
    }
    says(10, "of several the first that a call names: BAD, FULL");
    refused("type(.., 9) behind 120", ALL, y -> y.type(0x2020202020202020L, 9), BAD);
    refused("type(.., 0) behind 120", ALL, y -> y.type(0x2020202020202020L, 0), BAD);
    refused("a byte of 31 behind 120", ALL, y -> y.type(31, 1), BAD);
  }

  private static void count() {
    says(12, "How many: 0 PAGES, 1 GOODS, 2 BONDS, 3 YEARS, 4 GOODS that are in by THE PLAN.");
    int[][] counts = {{0, 0, 0, 0, 0}, {2, 3, 2, 2, 2}, {3, 6, 12, 12, 6}};
    Maker[] makers = {NEW, FEW, ALL};
    for (int i = 0; i < 3; i++) {
      for (int what = 0; what < 5; what++) due("count(" + what + ")", makers[i].make().count(what), counts[i][what]);
    }
    GoodsBook x = ALL.make();
    plan(x, 0, 0, 0, 0, 0, 6);
    due("one is in", x.count(4), 1);
    x.choose(5, 0);
    due("none is in", x.count(4), 0);
    says(12, "BAD");
    range("count(v)", FEW, (y, v) -> y.count(v), 0, 4, BAD);
    range("count(v)", NEW, (y, v) -> y.count(v), 0, 4, BAD);
  }
}
