/** Promises 13 to 20, sentence by sentence, with what the terms say of BRINGS, BONDS, WORTH, FIT and THE LAYING. */
public final class EdgesOfPlansTest extends Edges {
  public static void main(String[] args) {
    choose();
    plan();
    brings();
    bringsOfLeads();
    bringsOfRivals();
    bringsOfFillers();
    worth();
    worthOfExtras();
    breaks();
    breaksOfPages();
    square();
    judge();
    fits();
    end();
  }

  private static void choose() {
    says(13, "CHOICE of a GOOD by THE PLAN: what it was.");
    GoodsBook x = of("p1;p1;p1;gp01x1=1,1x1=1;gp01x1=1,1x1=1");
    for (int choice = 0; choice <= 6; choice++) due("choose(1, " + choice + ")", x.choose(1, choice), Math.max(choice - 1, 0));
    due("choose(1, 6) again", x.choose(1, 6), 6);
    due("choose(0, 0)", x.choose(0, 0), 0);
    says(13, "0 (it is out), or 1, 2 PAGE and SIZE, together");
    GoodsBook y = of("p1;p10;p30;gp01x1=3,1x1=5");
    int[] worth = {0, 3, 5, 30, 50, 90, 150};
    for (int choice = 0; choice <= 6; choice++) due("worth() of " + choice, plan(y, choice).worth(), worth[choice]);
    says(13, "BAD: also of a PAGE that is not there");
    due("no page, 0 is a CHOICE", of("gp01x1=1,1x1=1").choose(0, 0), 0);
    due("no page, 1 is none", of("gp01x1=1,1x1=1").choose(0, 1), BAD);
    due("no page, 2 is none", of("gp01x1=1,1x1=1").choose(0, 2), BAD);
    due("one page, 2 is one", of("p1;gp01x1=1,1x1=1").choose(0, 2), 0);
    due("one page, 3 is none", of("p1;gp01x1=1,1x1=1").choose(0, 3), BAD);
    range("choose(2, v), two pages", FEW, (z, v) -> z.choose(2, v), 0, 4, BAD);
    range("choose(5, v), three pages", ALL, (z, v) -> z.choose(5, v), 0, 6, BAD);
    range("choose(v, 1), three goods", FEW, (z, v) -> z.choose(v, 1), 0, 2, BAD);
    range("choose(v, 1), six goods", ALL, (z, v) -> z.choose(v, 1), 0, 5, BAD);
    refused("choose(0, 0), no good", NEW, z -> z.choose(0, 0), BAD);
    says(13, "THE PLAN is what is told: it counts at once");
    GoodsBook z = of("p10;p20;gp01x1=1,1x1=2;gp04x4=3,4x4=4");
    due("steps(-2)", z.steps(-2), 2);
    due("mended(0, 1)", z.mended(0, 1), 0);
    z.choose(1, 4);
    due("steps(-2)", z.steps(-2), 1);
    due("mended(0, 1)", z.mended(0, 1), 4);
  }

  private static void plan() {
    says(14, "a CHOICE for each GOOD: how many GOODS are in");
    for (int lane = 0; lane < 3; lane++) {
      GoodsBook x = of("p1;p1;p1;gp01x1=1,1x1=1;gp01x1=1,1x1=1;gp01x1=1,1x1=1");
      fill(x, 3, lane, 0, 6, 0, 5, 1, 0, 0, 0);
      int[] in = {1, 2, 2, 2, 1, 0};
      String[] rows = {"060", "605", "051", "510", "100", "000"};
      for (int from = 0; from < 6; from++) {
        due("plan(3, " + lane + ", " + from + ")", x.plan(3, lane, from), in[from]);
        due("THE PLAN", row(x, (y, g) -> y.choose(g, 0)), rows[from]);
      }
    }
    says(14, "BAD: SHEETS 0 .. 3, LANES 0 .. 2");
    range("plan(v, 2, 0), all sheets are there", Edges::allInts, (x, v) -> x.plan(v, 2, 0), 0, 3, BAD);
    range("plan(2, v, 0)", FEW, (x, v) -> x.plan(2, v, 0), 0, 2, BAD);
    says(14, "NULL");
    refused("plan(3, 0, 0)", FEW, x -> x.plan(3, 0, 0), NULL);
    refused("plan(0, 0, 0)", NEW, x -> x.plan(0, 0, 0), NULL);
    says(14, "CAST: of SHEETS another LANE");
    for (int sheet = 0; sheet < 3; sheet++) {
      for (int lane = 0; lane < 3; lane++) {
        int s = sheet, l = lane;
        if (s != l) refused("plan(" + s + ", " + l + ", 0)", FEW, x -> x.plan(s, l, 0), CAST);
      }
    }
    says(14, "INDEX");
    range("plan(2, 2, v), 9 items, three goods", FEW, (x, v) -> x.plan(2, 2, v), 0, 6, INDEX);
    range("plan(1, 1, v), 3 items, three goods", FEW, (x, v) -> x.plan(1, 1, v), 0, 0, INDEX);
    range("plan(0, 0, v), 16 items, six goods", ALL, (x, v) -> x.plan(0, 0, v), 0, 10, INDEX);
    for (int items = 0; items < 3; items++) {
      int n = items;
      Maker few = () -> withSheet(FEW.make(), n);
      refused("plan(3, 0, 0), " + n + " items for three goods", few, x -> x.plan(3, 0, 0), INDEX);
    }
    says(14, "NOT: one is none");
    for (int at = 0; at < 3; at++) {
      for (int v : new int[] {-1, 5, 6, LEAST, MOST}) {
        int i = at;
        Maker spoilt = () -> withItem(2, i, v);
        refused("plan(2, 2, 0) with item " + at + " of " + v, spoilt, x -> x.plan(2, 2, 0), NOT);
      }
    }
    due("no page: 1 is none", onlyGood(1).plan(0, 0, 0), NOT);
    due("no page: 0 is one", onlyGood(0).plan(0, 0, 0), 0);
    says(14, "of several the first that a call names: BAD, NULL, CAST, INDEX, NOT");
    refused("plan(4, 0, -1): BAD", FEW, x -> x.plan(4, 0, -1), BAD);
    refused("plan(3, 3, -1): BAD ahead of NULL", FEW, x -> x.plan(3, 3, -1), BAD);
    refused("plan(0, 3, -1): BAD ahead of CAST", FEW, x -> x.plan(0, 3, -1), BAD);
    refused("plan(3, 1, -1): NULL ahead of INDEX", FEW, x -> x.plan(3, 1, -1), NULL);
    refused("plan(0, 1, -1): CAST ahead of INDEX", FEW, x -> x.plan(0, 1, -1), CAST);
    refused("plan(0, 1, MOST): CAST ahead of INDEX", FEW, x -> x.plan(0, 1, MOST), CAST);
    refused("plan(2, 1, 0): CAST ahead of NOT", () -> withItem(2, 0, 5), x -> x.plan(2, 1, 0), CAST);
    refused("plan(2, 2, 7): INDEX ahead of NOT", () -> withItem(2, 7, 5), x -> x.plan(2, 2, 7), INDEX);
    refused("plan(2, 2, -1): INDEX ahead of NOT", () -> withItem(2, 0, 5), x -> x.plan(2, 2, -1), INDEX);
    says(14, "no GOODS: no item is asked for");
    GoodsBook none = new GoodsBook();
    none.sheet(0, 1, 0);
    due("plan(0, 1, 0)", none.plan(0, 1, 0), 0);
    due("plan(1, 1, 0)", none.plan(1, 1, 0), NULL);
    due("plan(0, 0, 0)", none.plan(0, 0, 0), CAST);
    due("plan(0, 3, 0)", none.plan(0, 3, 0), BAD);
  }

  private static GoodsBook withSheet(GoodsBook x, int items) {
    x.sheet(3, 0, items);
    return x;
  }

  private static GoodsBook withItem(int sheet, int i, int v) {
    GoodsBook x = FEW.make();
    x.item(sheet, 2, i, v);
    return x;
  }

  private static GoodsBook onlyGood(int item) {
    GoodsBook x = of("gp01x1=1,1x1=1");
    fill(x, 0, 0, item);
    return x;
  }

  private static void brings() {
    says(15, "PLAIN: SALE of its SIZE times SEEN of its PAGE");
    GoodsBook x = of("p0;p1;p60;gp01x1=0,4x4=999");
    int[] due = {NONE, 0, 0, 0, 999, 0, 59940};
    for (int choice = 0; choice <= 6; choice++) due("choice " + choice, plan(x, choice).brings(0), due[choice]);
    says(15, "BAD; NONE: it is out");
    range("brings(v), three goods", FEW, (y, v) -> y.brings(v), 0, 2, BAD);
    range("brings(v), six goods", ALL, (y, v) -> y.brings(v), 0, 5, BAD);
    refused("brings(0), no good", NEW, y -> y.brings(0), BAD);
    refused("brings(2), out", FEW, y -> y.brings(2), NONE);
    refused("brings(3) of three goods", FEW, y -> y.brings(3), BAD);
  }

  private static void bringsOfLeads() {
    says(15, "LEAD: so, and LEADS times SEEN times how many other GOODS are on its PAGE");
    String five = ";gp01x1=9,1x1=9".repeat(5);
    GoodsBook x = of("p60;p10;gl01x1=999,1x1=1" + five);
    x.choose(0, 1);
    for (int others = 0; others <= 5; others++) {
      if (others > 0) x.choose(others, 1 + others % 2);
      due(others + " others", x.brings(0), 999 * 60 + 5 * 60 * others);
    }
    x.set(0, 99);
    due("LEADS 99", x.brings(0), 999 * 60 + 99 * 60 * 5);
    x.set(0, 0);
    due("LEADS 0", x.brings(0), 999 * 60);
    x.set(0, 1);
    x.choose(5, 3);
    due("one is elsewhere", x.brings(0), 999 * 60 + 60 * 4);
    x.choose(4, 0);
    due("one is out", x.brings(0), 999 * 60 + 60 * 3);
    x.choose(0, 4);
    due("on the other PAGE, SIZE 1", x.brings(0), 10 + 10);
    due("another GOOD is not led", x.brings(5), 90);
    due("each LEAD counts the other", planned("p2;gl01x1=1,1x1=1;gl01x1=3,1x1=1", 1, 1).worth(), 2 + 10 + 6 + 10);
    due("an unseen PAGE", planned("p0;gl01x1=1,1x1=1;gp01x1=3,1x1=1", 1, 1).brings(0), 0);
  }

  private static void bringsOfRivals() {
    says(15, "RIVAL: as PLAIN by 1 and how many other RIVALS of its FAMILY are in (cut)");
    GoodsBook x = of("p7;p1" + ";gr31x1=9,1x1=10".repeat(6));
    int[] due = {63, 31, 21, 15, 12, 10};
    for (int others = 0; others <= 5; others++) {
      x.choose(others, others == 0 ? 1 : 1 + others % 4);
      due(others + " others, wherever they are", x.brings(0), due[others]);
    }
    GoodsBook y = planned("p1;gr01x1=5,1x1=1;gr11x1=5,1x1=1;gp01x1=5,1x1=1;gl01x1=5,1x1=1;gf01x1=5,1x1=1", 1, 1, 1, 1, 1);
    due("another FAMILY, other KINDS of its FAMILY", y.brings(0), 5);
    due("PLAIN is as it is", y.brings(2), 5);
    GoodsBook z = planned("p1;gr01x1=5,1x1=1;gr01x1=5,1x1=1", 1, 0);
    due("the other is out", z.brings(0), 5);
    due("less than one is cut to 0", planned("p1;gr01x1=1,1x1=1;gr01x1=0,1x1=0", 1, 1).brings(0), 0);
    due("each is cut by itself", planned("p1;gr01x1=1,1x1=1;gr01x1=1,1x1=1", 1, 1).worth(), 0);
  }

  private static void bringsOfFillers() {
    says(15, "FILLER: as PLAIN, twice that, if the SQUARES of all GOODS on its PAGE are 16");
    GoodsBook x = of("p3;p1;gf01x1=7,4x4=7;gp03x4=0,4x4=0;gp03x1=0,2x1=0;gp01x1=0,1x1=0");
    due("1 square", plan(x, 1, 0, 0, 0).brings(0), 21);
    due("15 squares", plan(x, 1, 1, 2, 0).brings(0), 21);
    due("16 squares", plan(x, 1, 1, 1, 0).brings(0), 42);
    due("17 squares", plan(x, 1, 1, 1, 1).brings(0), 21);
    due("17 squares, 16 beside it", plan(x, 1, 2, 0, 0).brings(0), 21);
    due("16 by itself", plan(x, 2, 0, 0, 0).brings(0), 42);
    due("32 squares", plan(x, 2, 2, 0, 0).brings(0), 21);
    due("16 on another PAGE", plan(x, 1, 4, 0, 0).brings(0), 21);
    due("16 on its PAGE, more on another", plan(x, 1, 1, 1, 3).brings(0), 42);
    GoodsBook y = planned("p1;gf03x3=5,1x1=1;gp02x2=0,1x1=1;gp03x1=0,1x1=1", 1, 1, 1);
    due("16 that can't lie", y.brings(0), 10);
    due("they do not FIT", y.breaks(1), 0);
    due("PLAIN on a full PAGE", planned("p1;gp04x4=5,1x1=1", 1).brings(0), 5);
    due("the most", planned("p60;gf04x4=999,1x1=1", 1).brings(0), 119880);
    due("two FILLERS", planned("p1;gf04x2=5,1x1=1;gf04x2=6,1x1=1", 1, 1).worth(), 22);
  }

  private static void worth() {
    says(16, "all out is worth 0");
    due("a new object", new GoodsBook().worth(), 0);
    due("all out", plan(ALL.make(), 0, 0, 0, 0, 0, 0).worth(), 0);
    says(16, "COST is of each PAGE with a GOOD on it; POST of each two such PAGES begun; 60 COSTS, 60 POSTS");
    int[][] plans = {{0, 0, 0}, {1, 0, 0}, {5, 5, 5}, {1, 3, 0}, {5, 1, 1}, {1, 3, 5}};
    int[] costs = {0, 1, 1, 2, 2, 3};
    int[] posts = {0, 1, 1, 1, 1, 2};
    for (int i = 0; i < plans.length; i++) {
      for (int amount : new int[] {0, 1, 999}) {
        GoodsBook x = planned("p0;p0;p0" + ";gp01x1=1,1x1=1".repeat(3), plans[i]);
        x.set(1, amount);
        due("COST " + amount + " of plan " + i, x.worth(), -60 * amount * costs[i]);
        x.set(1, 0);
        x.set(2, amount);
        due("POST " + amount + " of plan " + i, x.worth(), -60 * amount * posts[i]);
        x.set(1, 999);
        due("both of plan " + i, x.worth(), -60 * amount * posts[i] - 59940 * costs[i]);
      }
    }
    says(16, "The WORTH: what all GOODS that are in BRING, all EXTRAS");
    GoodsBook most = of("p60;p60;p60" + ";gf04x4=999,1x1=999".repeat(3) + ";abf+99;abe+99;bao+99");
    due("the most of three pages", plan(most, 3, 5, 1).worth(), 3 * 119880 + 2 * 99 * 60);
    due("one page is too full", plan(most, 3, 3, 1).worth(), 2 * 59940 + 119880 + 2 * 99 * 60);
    GoodsBook least = planned("p60;p60;p60" + ";gp01x1=0,1x1=0".repeat(3) + ";abe-99".repeat(12), 1, 3, 5);
    least.set(1, 999);
    least.set(2, 999);
    due("the least", least.worth(), -12 * 99 * 60 - 3 * 59940 - 2 * 59940);
    due("SOUND or not", planned("p1;gp04x4=5,1x1=1;gp04x4=6,1x1=1;abv", 1, 1).worth(), 11);
  }

  private static void worthOfExtras() {
    says(16, "0 ON (if both are on one PAGE), 1 FACING (one on PAGE 1, the other on PAGE 2), 2 ANYWHERE (both are in)");
    int[] seen = {30, 20, 50};
    String[] kinds = {"o", "f", "e"};
    for (int kind = 0; kind < 3; kind++) {
      for (int extra : new int[] {-99, 7, 99}) {
        GoodsBook x = of("p30;p20;p50;gp01x1=0,1x1=0;gp01x1=0,1x1=0;ab" + kinds[kind] + (extra < 0 ? "" : "+") + extra);
        for (int a = 0; a <= 6; a++) {
          for (int b = 0; b <= 6; b++) {
            int pa = (a - 1) / 2, pb = (b - 1) / 2;
            boolean both = a > 0 && b > 0;
            boolean counts = both && (kind == 0 ? pa == pb : kind == 1 ? pa + pb == 3 && pa * pb == 2 : true);
            int due = counts ? extra * Math.min(seen[pa], seen[pb]) : 0;
            due("KIND " + kind + ", EXTRA " + extra + ", choices " + a + b, plan(x, a, b).worth(), due);
          }
        }
      }
    }
    says(16, "PAGES 1 and 2 lie open together: two PAGES alone do not");
    due("0 and 1", planned("p1;p1;gp01x1=0,1x1=0;gp01x1=0,1x1=0;abf+9", 1, 3).worth(), 0);
    says(16, "KINDS 3 .. 5 bring nothing, like BONDS all count");
    due("NEEDS, NEVER, AHEAD", planned("p60;p60;gp01x1=0,1x1=0;gp01x1=0,1x1=0;abn;abv;abh", 1, 3).worth(), 0);
    due("two of a kind, both ways", planned("p10;gp01x1=0,1x1=0;gp01x1=0,1x1=0;abo+3;bao+4", 1, 2).worth(), 70);
  }

  private static void breaks() {
    says(17, "3 NEEDS (a in: b is in), 4 NEVER (not on one PAGE), 5 AHEAD (both in: a's PAGE is the lesser)");
    String[] kinds = {"o+1", "f+1", "e+1", "n", "v", "h"};
    for (int kind = 0; kind < 6; kind++) {
      GoodsBook x = of("p1;p1;p1;gp01x1=0,1x1=0;gp01x1=0,1x1=0;ab" + kinds[kind]);
      for (int a = 0; a <= 6; a++) {
        for (int b = 0; b <= 6; b++) {
          int pa = (a + 1) / 2, pb = (b + 1) / 2;
          boolean broken = kind == 3 ? a > 0 && b == 0 : kind == 4 ? pa > 0 && pa == pb : kind == 5 && pa > 0 && pb > 0 && pa >= pb;
          due("KIND " + kind + ", choices " + a + b, plan(x, a, b).breaks(0), broken ? 0 : NONE);
        }
      }
    }
    says(17, "The first BOND that THE PLAN does not KEEP (0)");
    GoodsBook x = of("p1;p1;gp01x1=0,1x1=0;gp01x1=0,1x1=0" + ";abo+1".repeat(9) + ";abh;abv;abn");
    due("the last", plan(x, 1, 0).breaks(0), 11);
    due("the first of two", plan(x, 1, 1).breaks(0), 9);
    due("AHEAD alone", plan(x, 3, 1).breaks(0), 9);
    due("all are kept", plan(x, 1, 3).breaks(0), NONE);
    due("no bonds", planned("p1;gp01x1=0,1x1=0", 1).breaks(0), NONE);
    due("no goods", new GoodsBook().breaks(0), NONE);
    says(17, "BAD");
    range("breaks(v)", FEW, (y, v) -> y.breaks(v), 0, 1, BAD);
    range("breaks(v)", NEW, (y, v) -> y.breaks(v), 0, 1, BAD);
  }

  private static void breaksOfPages() {
    says(17, "the first PAGE that its GOODS do not FIT (1)");
    GoodsBook x = of("p1;p1;p1" + ";gp04x4=0,1x1=0".repeat(4));
    for (int p = 0; p < 3; p++) {
      due("two of 16 on page " + p, plan(x, 1 + 2 * p, 2 + 2 * p, 0, 0).breaks(1), p);
      due("one of 16 on page " + p, plan(x, 1 + 2 * p, 0, 0, 0).breaks(1), NONE);
    }
    due("the first of two", plan(x, 5, 6, 3, 4).breaks(1), 1);
    due("one of 16 on each", plan(x, 1, 3, 5, 0).breaks(1), NONE);
    due("no pages", of("gp04x4=0,1x1=0").breaks(1), NONE);
    due("pages without goods", of("p1;p2").breaks(1), NONE);
    due("BONDS do not matter", planned("p1;gp01x1=0,1x1=0;gp01x1=0,1x1=0;abv", 1, 1).breaks(1), NONE);
  }

  private static void square() {
    says(18, "each in the order of its number at the least SQUARE (its least x, y), so that the others still can lie");
    GoodsBook ones = planned("p1" + ";gp01x1=0,1x1=0".repeat(6), 1, 2, 1, 2, 1, 2);
    for (int g = 0; g < 6; g++) due("1 by 1, good " + g, ones.square(g), g);
    GoodsBook full = planned("p1;gp01x4=0,1x1=0;gp03x1=0,1x1=0;gp03x1=0,1x1=0;gp03x2=0,1x1=0", 1, 1, 1, 1);
    int[] at = {0, 1, 5, 9};
    for (int g = 0; g < 4; g++) due("16 squares, good " + g, full.square(g), at[g]);
    GoodsBook late = planned("p1;gp01x1=0,1x1=0;gp04x3=0,1x1=0", 1, 1);
    due("0 is least though 4 by 3 must go below", late.square(0), 0);
    due("4 by 3", late.square(1), 4);
    GoodsBook pushed = planned("p1;gp01x1=0,1x1=0;gp02x2=0,1x1=0;gp04x2=0,1x1=0;gp01x2=0,1x1=0;gp01x1=0,1x1=0", 1, 1, 1, 1, 1);
    String where = row(pushed, GoodsBook::square).replace("-", "m");
    due("the first counts most", where, "01834");
    GoodsBook wheel = planned("p1;gp02x2=0,1x1=0;gp03x1=0,1x1=0;gp01x3=0,1x1=0;gp03x1=0,1x1=0;gp01x3=0,1x1=0", 1, 1, 1, 1, 1);
    int[] spokes = {5, 0, 3, 13, 4};
    for (int g = 0; g < 5; g++) due("a wheel round 2 by 2, good " + g, wheel.square(g), spokes[g]);
    says(18, "upright as told");
    GoodsBook upright = planned("p1;gp04x3=0,1x1=0;gp01x4=0,4x1=0", 1, 1);
    due("1 by 4 beside 4 by 3 can't lie", upright.square(0), NONE);
    due("4 by 1 can", plan(upright, 1, 2).square(1), 12);
    says(18, "as PAGES have 4 by 4 SQUARES (4 y and x)");
    due("4 by 4", planned("p1;gp04x4=0,1x1=0", 1).square(0), 0);
    GoodsBook corner = planned("p1;gp04x3=0,1x1=0;gp03x1=0,1x1=0;gp01x1=0,1x1=0", 1, 1, 1);
    due("the last SQUARE", corner.square(2), 15);
    due("on the last PAGE", planned("p1;p1;p1;gp01x1=0,4x4=0", 6).square(0), 0);
    due("GOODS of other PAGES do not matter", planned("p1;p1;gp04x4=0,1x1=0;gp04x4=0,1x1=0", 1, 3).square(1), 0);
    says(18, "BAD; NOT: it is out; NONE: its PAGE's GOODS do not FIT");
    range("square(v), three goods", FEW, (y, v) -> y.square(v), 0, 2, BAD);
    range("square(v), six goods", ALL, (y, v) -> y.square(v), 0, 5, BAD);
    refused("square(0), no good", NEW, y -> y.square(0), BAD);
    refused("square(2), out", FEW, y -> y.square(2), NOT);
    Maker crowded = () -> planned("p1;p1;gp04x4=0,1x1=0;gp04x4=0,1x1=0;gp01x1=0,1x1=0;gp03x3=0,2x2=0;gp01x1=0,3x3=0", 1, 2, 3, 0, 0);
    refused("17 squares", crowded, y -> y.square(0), NONE);
    refused("17 squares, the other", crowded, y -> y.square(1), NONE);
    due("the other PAGE fits", crowded.make().square(2), 0);
    refused("out, though its PAGE would be too full", crowded, y -> y.square(3), NOT);
    GoodsBook loose = crowded.make();
    due("13 squares that can't lie", plan(loose, 0, 0, 0, 2, 2).square(3), NONE);
  }

  private static void judge() {
    says(19, "the first GOOD that is not within, or lies on one ahead of it");
    for (int square = -1; square <= 16; square++) {
      for (int w = 1; w <= 4; w++) {
        for (int h = 1; h <= 4; h++) {
          GoodsBook x = planned("p1;gp01x1=0,1x1=0;gp0" + w + "x" + h + "=0,1x1=0", 0, 1);
          fill(x, 0, 2, square);
          boolean within = square >= 0 && square < 16 && square % 4 + w <= 4 && square / 4 + h <= 4;
          due(w + " by " + h + " at " + square, x.judge(0, 0, 2, 0), within ? NONE : 1);
        }
      }
    }
    for (int square : new int[] {LEAST, MOST, -16, 16, 32, 255, 256, 65536}) {
      GoodsBook x = planned("p1;gp01x1=0,1x1=0", 1);
      fill(x, 0, 2, square);
      due("1 by 1 at " + square, x.judge(0, 0, 2, 0), 0);
    }
    GoodsBook lies = planned("p1;gp02x2=0,1x1=0;gp02x2=0,1x1=0;gp01x1=0,1x1=0", 1, 1, 1);
    int[][] layings = {{0, 2, 8}, {5, 0, 0}, {0, 5, 3}, {0, 2, 6}, {0, 2, 0}, {0, 3, 0}, {3, 3, 3}, {0, 12, 8}, {10, 0, 15}, {10, 8, 0}};
    int[] judged = {NONE, 1, 1, 2, 2, 1, 0, 1, 2, NONE};
    for (int i = 0; i < layings.length; i++) {
      fill(lies, 0, 0, layings[i]);
      due("laying " + i, lies.judge(0, 0, 0, 0), judged[i]);
    }
    says(19, "SQUARES for GOODS of a PAGE by THE PLAN, in the order of their numbers, from one on");
    GoodsBook two = planned("p1;p1;p1;gp04x1=0,1x1=0;gp01x1=0,1x4=0;gp04x4=0,1x1=0;gp03x1=0,1x1=0", 5, 4, 0, 5);
    for (int lane = 0; lane < 3; lane++) {
      fill(two, 1, lane, 99, 4, 0, 4, 1);
      due("page 2: 4 and 0", two.judge(2, 1, lane, 1), NONE);
      due("page 2: 0 and 4", two.judge(2, 1, lane, 2), NONE);
      due("page 2: 4 and 1", two.judge(2, 1, lane, 3), NONE);
      due("page 1: 99", two.judge(1, 1, lane, 0), 1);
      due("page 1: 4", two.judge(1, 1, lane, 1), 1);
      due("page 1: 1", two.judge(1, 1, lane, 4), NONE);
      due("page 2: 1 and none", two.judge(2, 1, lane, 4), INDEX);
    }
    judgeRefusals();
  }

  private static void judgeRefusals() {
    says(19, "BAD: a PAGE that there is, SHEETS 0 .. 3, LANES 0 .. 2");
    range("judge(v, 2, 2, 0), two pages", FEW, (x, v) -> x.judge(v, 2, 2, 0), 0, 1, BAD);
    range("judge(v, 2, 2, 0), three pages", ALL, (x, v) -> x.judge(v, 2, 2, 0), 0, 2, BAD);
    range("judge(0, v, 2, 0), all sheets are there", Edges::allInts, (x, v) -> x.judge(0, v, 2, 0), 0, 3, BAD);
    range("judge(0, 2, v, 0)", FEW, (x, v) -> x.judge(0, 2, v, 0), 0, 2, BAD);
    refused("judge(0, 0, 0, 0), no page", NEW, x -> x.judge(0, 0, 0, 0), BAD);
    says(19, "NULL; CAST; INDEX");
    refused("judge(0, 3, 0, 0)", FEW, x -> x.judge(0, 3, 0, 0), NULL);
    refused("judge(0, 0, 1, 0)", FEW, x -> x.judge(0, 0, 1, 0), CAST);
    refused("judge(0, 1, 0, 0)", FEW, x -> x.judge(0, 1, 0, 0), CAST);
    refused("judge(0, 2, 1, 0)", FEW, x -> x.judge(0, 2, 1, 0), CAST);
    range("judge(0, 2, 2, v), 9 items, one good", FEW, (x, v) -> x.judge(0, 2, 2, v), 0, 8, INDEX);
    range("judge(2, 0, 0, v), 16 items, three goods", ALL, (x, v) -> x.judge(2, 0, 0, v), 0, 13, INDEX);
    due("no items", withSheet(FEW.make(), 0).judge(0, 3, 0, 0), INDEX);
    says(19, "INDEX, whatever the items ahead are");
    GoodsBook x = planned("p1;gp01x1=0,1x1=0;gp01x1=0,1x1=0", 1, 1);
    fill(x, 0, 2, 99);
    due("judge(0, 0, 2, 0)", x.judge(0, 0, 2, 0), INDEX);
    says(19, "of several the first that a call names: BAD, NULL, CAST, INDEX");
    refused("judge(2, 3, 0, -1): BAD", FEW, y -> y.judge(2, 3, 0, -1), BAD);
    refused("judge(0, 3, 3, -1): BAD", FEW, y -> y.judge(0, 3, 3, -1), BAD);
    refused("judge(0, 3, 2, -1): NULL", FEW, y -> y.judge(0, 3, 2, -1), NULL);
    refused("judge(0, 0, 2, -1): CAST", FEW, y -> y.judge(0, 0, 2, -1), CAST);
    says(19, "NONE: a PAGE without GOODS asks for no item");
    GoodsBook empty = plan(FEW.make(), 0, 0, 0);
    due("judge(0, 2, 2, 0)", empty.judge(0, 2, 2, 0), NONE);
    due("judge(0, 3, 2, 0)", empty.judge(0, 3, 2, 0), NULL);
    due("judge(0, 0, 2, 0)", empty.judge(0, 0, 2, 0), CAST);
    empty.sheet(3, 0, 0);
    due("judge(0, 3, 0, 0)", empty.judge(0, 3, 0, 0), NONE);
  }

  private static void fits() {
    says(20, "a digit in threes each (0 out, 1 SIZE 0, 2 SIZE 1; GOOD 0's counts least)");
    int[] threes = {1, 3, 9, 27, 81, 243};
    for (int g = 0; g < 6; g++) {
      // The good in question has a small SIZE 0 and a SIZE 1 that takes all; another one is beside it.
      int other = (g + 1) % 6;
      StringBuilder text = new StringBuilder("gp01x1=0,4x4=0");
      for (int i = 1; i < 6; i++) text.append(";gp01x1=0,1x1=0");
      GoodsBook x = of(text.toString());
      x.size(0, 1, 1, 1, 0);
      x.size(g, 1, 4, 4, 0);
      due("SIZE 0 of " + g, x.fits(threes[g] + threes[other]), 1);
      due("SIZE 1 of " + g, x.fits(2 * threes[g] + threes[other]), 0);
      due("SIZE 1 of " + g + " alone", x.fits(2 * threes[g]), 1);
      due("SIZE 1 of another", x.fits(threes[g] + 2 * threes[other]), 1);
    }
    says(20, "FIT a PAGE, if they can lie on its SQUARES, none on another (1, 0)");
    due("none", of("gp04x4=0,4x4=0").fits(0), 1);
    due("none of none", new GoodsBook().fits(0), 1);
    due("16 squares", of("gp04x2=0,1x1=0;gp04x2=0,1x1=0").fits(4), 1);
    due("17 squares", of("gp04x4=0,1x1=0;gp01x1=0,1x1=0").fits(4), 0);
    due("3 by 3 and 2 by 2", of("gp03x3=0,1x1=0;gp02x2=0,1x1=0").fits(4), 0);
    due("3 by 3 and 1 by 4", of("gp03x3=0,1x1=0;gp01x4=0,1x1=0").fits(4), 1);
    due("4 by 1 and 1 by 4 cross", of("gp04x1=0,1x1=0;gp01x4=0,1x1=0").fits(4), 0);
    due("four 2 by 2", of("gp02x2=0,1x1=0" + ";gp02x2=0,1x1=0".repeat(3)).fits(40), 1);
    due("3 by 2, two", of("gp03x2=0,1x1=0;gp03x2=0,1x1=0").fits(4), 1);
    due("3 by 2 and 2 by 3", of("gp03x2=0,1x1=0;gp02x3=0,1x1=0").fits(4), 0);
    due("a wheel", of("gp03x1=0,1x1=0;gp01x3=0,1x1=0;gp03x1=0,1x1=0;gp01x3=0,1x1=0;gp02x2=0,1x1=0").fits(121), 1);
    for (int g = 0; g < 6; g++) {
      int other = (g + 1) % 6;
      GoodsBook y = of("gp01x1=0,1x1=0" + ";gp01x1=0,1x1=0".repeat(5));
      y.size(g, 1, 2, 2, 0);
      y.size(other, 1, 3, 3, 0);
      due("SIZES 1 of " + g + " and " + other + " can't lie", y.fits(2 * threes[g] + 2 * threes[other]), 0);
      due("each of them can", y.fits(2 * threes[g] + threes[other]) + y.fits(threes[g] + 2 * threes[other]), 2);
    }
    due("no pages are needed", of("gp04x4=0,4x4=0").fits(2), 1);
    says(20, "BAD");
    int[] all = {1, 3, 9, 27, 81, 243, 729};
    for (int goods = 0; goods <= 6; goods++) {
      GoodsBook x = new GoodsBook();
      for (int i = 0; i < goods; i++) x.good(0, 0);
      due("the last of " + goods + " goods", x.fits(all[goods] - 1), 1);
      due("one more than the last of " + goods + " goods", x.fits(all[goods]), BAD);
    }
    range("fits(v), no goods", NEW, (x, v) -> x.fits(v), 0, 0, BAD);
    range("fits(v), three goods", FEW, (x, v) -> x.fits(v), 0, 26, BAD);
    range("fits(v), six goods", ALL, (x, v) -> x.fits(v), 0, 728, BAD);
  }
}
