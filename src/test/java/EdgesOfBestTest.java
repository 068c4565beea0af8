/** Promises 21 to 29, sentence by sentence: the best, squares, bound, steps, pages more and less, through, mended. */
public final class EdgesOfBestTest extends Edges {
  /** Six goods that take a whole page each. */
  private static final String SIX_LARGE = "gp04x4=1,4x4=1" + ";gp04x4=1,4x4=1".repeat(5);

  public static void main(String[] args) {
    best();
    bestOfBonds();
    bestRefusals();
    take();
    squares();
    price();
    bound();
    steps();
    stepsRefusals();
    more();
    less();
    through();
    mended();
    mendedRefusals();
    end();
  }

  private static void dueBest(String what, GoodsBook x, String choices, int worth) {
    due(what, row(x, GoodsBook::best), choices);
    due(what + ", WORTH", x.best(-1), worth);
  }

  private static void best() {
    says(21, "nothing there yet");
    dueBest("no goods, no pages", new GoodsBook(), "", 0);
    dueBest("pages without goods", of("p60;p60"), "", 0);
    dueBest("goods without pages", of("gp01x1=9,1x1=9;gl01x1=9,1x1=9"), "00", 0);
    says(21, "the greatest WORTH of all SOUND ones");
    dueBest("the larger SIZE", of("p1;gp01x1=1,4x4=2"), "2", 2);
    dueBest("the PAGE that is seen most", of("p1;p3;p2;gp01x1=1,1x1=0"), "3", 3);
    dueBest("16 squares", of("p1;gp04x2=1,1x1=0;gp04x2=1,1x1=0"), "11", 2);
    dueBest("17 squares", of("p1;gp04x4=2,4x4=1;gp01x1=1,1x1=1"), "10", 2);
    dueBest("13 squares that can't lie", of("p1;gp03x3=2,3x3=1;gp02x2=1,2x2=1"), "10", 2);
    dueBest("COST is less than it brings", withSet(of("p60;gp01x1=2,1x1=0"), 1, 1), "1", 60);
    dueBest("COST is what it brings", withSet(of("p60;gp01x1=2,1x1=0"), 1, 2), "0", 0);
    dueBest("COST is more", withSet(of("p60;gp01x1=2,1x1=0"), 1, 3), "0", 0);
    dueBest("a third PAGE is not worth its POST", withSet(of("p60;p60;p60;gp04x4=3,4x4=3;gp04x4=3,4x4=3;gp04x4=3,4x4=3"), 2, 3), "013", 180);
    dueBest("a third PAGE is worth its POST", withSet(of("p60;p60;p60;gp04x4=3,4x4=3;gp04x4=3,4x4=3;gp04x4=3,4x4=3"), 2, 2), "135", 540 - 240);
    dueBest("RIVALS: one alone", of("p2;gr01x1=3,1x1=3;gr01x1=3,1x1=2"), "01", 6);
    dueBest("a FILLER fills", of("p1;gf03x4=5,4x4=5;gp01x4=0,1x1=3"), "11", 10);
    dueBest("a FILLER is filled by two that sell nothing", of("p1;gf04x2=9,1x1=0;gp01x1=0,4x1=0;gp04x1=0,1x1=0"), "121", 18);
    dueBest("the same, it comes last", of("p1;gp01x1=0,4x1=0;gp04x1=0,1x1=0;gf01x1=0,4x2=9"), "212", 18);
    dueBest("a LEAD and its company", of("p1;p2;gl01x1=0,1x1=0;gp01x1=1,1x1=0;gp01x1=1,1x1=0"), "333", 4 + 20);
    dueBest("the most of six goods", of("p60;p60;p60;" + "gf04x4=999,4x4=998" + ";gf04x4=999,4x4=998".repeat(5)), "000135", 3 * 119880);
    dueBest("a PAGE of small ones is worth more", of("p60;p60;p60;" + "gf04x4=999,1x1=999" + ";gf04x4=999,1x1=999".repeat(5)), "136666",
      2 * 119880 + 4 * 59940);
    says(21, "of like ones the first as a row of CHOICES");
    dueBest("an unseen PAGE", of("p0;gp01x1=9,1x1=9;gp01x1=9,1x1=9"), "00", 0);
    dueBest("nothing sells", of("p9;gp01x1=0,1x1=0"), "0", 0);
    dueBest("like SIZES", of("p1;gp01x1=5,1x1=5"), "1", 5);
    dueBest("like PAGES", of("p2;p2;p2;gp01x1=5,1x1=6"), "2", 12);
    dueBest("six large ones", of("p1;p1;p1;" + SIX_LARGE), "000135", 3);
    dueBest("the first GOOD counts most", of("p1;gp04x4=5,4x4=5;gp04x4=5,4x4=5"), "01", 5);
    dueBest("like by an EXTRA", of("p1;gp01x1=5,1x1=5;gp01x1=5,1x1=5;abe-5"), "01", 5);
    says(21, "THE PLAN does not matter and stays");
    GoodsBook x = of("p1;p1;gp01x1=5,1x1=5;gp04x4=5,4x4=5");
    for (int a = 0; a <= 4; a++) {
      dueBest("from " + a, plan(x, a, 4 - a), "13", 10);
      due("THE PLAN", x.choose(0, a), a);
      due("THE PLAN", x.choose(1, 4 - a), 4 - a);
    }
  }

  private static GoodsBook withSet(GoodsBook x, int what, int v) {
    x.set(what, v);
    return x;
  }

  private static void bestOfBonds() {
    String three = "p1;p2;p3;gp01x1=9,1x1=9;gp01x1=8,1x1=8;gp01x1=7,1x1=7;";
    says(21, "SOUND, if it KEEPS all BONDS");
    dueBest("NEEDS one that can't be in", of("p1;gp04x4=9,4x4=9;gp01x1=1,1x1=1;abn"), "01", 1);
    dueBest("NEEDS round", of(three + "abn;bcn;can"), "555", 72);
    dueBest("NEVER on three PAGES", of(three + "abv;bcv;acv"), "531", 27 + 16 + 7);
    dueBest("AHEAD, b stays out", of(three + "abh;bch"), "505", 27 + 21);
    dueBest("AHEAD, all are needed", of(three + "abh;bch;abn;bcn"), "135", 9 + 16 + 21);
    dueBest("AHEAD round: one stays out", of(three + "abh;bah"), "505", 27 + 21);
    dueBest("AHEAD on one PAGE", of("p1;gp01x1=9,1x1=9;gp01x1=8,1x1=8;abh"), "10", 9);
    dueBest("AHEAD and NEEDS on one PAGE", of("p1;gp01x1=9,1x1=9;gp01x1=8,1x1=8;abh;abn"), "01", 8);
    dueBest("all at odds", of("p1;gp01x1=9,1x1=9;gp01x1=8,1x1=8;abh;abn;ban"), "00", 0);
    says(21, "all EXTRAS");
    dueBest("ON", of("p3;p2;gp01x1=0,1x1=0;gp01x1=0,1x1=0;abo+1"), "11", 3);
    dueBest("FACING", of("p9;p2;p3;gp01x1=0,1x1=0;gp01x1=0,1x1=0;abf+1"), "35", 2);
    dueBest("FACING with two PAGES", of("p9;p2;gp01x1=0,1x1=0;gp01x1=0,1x1=0;abf+99"), "00", 0);
    dueBest("ANYWHERE", of("p3;p2;gp01x1=0,1x1=0;gp01x1=0,1x1=0;abe+1"), "11", 3);
    dueBest("less than they bring", of("p1;gp01x1=5,1x1=5;gp01x1=5,1x1=5;abe-4"), "11", 6);
    dueBest("more than one brings", of("p1;gp01x1=5,1x1=5;gp01x1=6,1x1=5;abe-6"), "01", 6);
    dueBest("ON less: elsewhere", of("p1;p1;gp01x1=5,1x1=5;gp01x1=5,1x1=5;abo-1"), "13", 10);
    dueBest("one out helps by NEEDS", of("p60;gp01x1=0,1x1=0;gp01x1=0,1x1=0;abe+99;abn"), "11", 5940);
  }

  private static void bestRefusals() {
    says(21, "BAD less 1000000000");
    range("best(v), three goods", FEW, (x, v) -> x.best(v), -1, 2, LESS + BAD);
    range("best(v), six goods", ALL, (x, v) -> x.best(v), -1, 5, LESS + BAD);
    range("best(v), no goods", NEW, (x, v) -> x.best(v), -1, -1, LESS + BAD);
  }

  private static void take() {
    says(22, "THE PLAN becomes THE BEST PLAN: its WORTH.");
    due("nothing there", new GoodsBook().take(), 0);
    due("no pages", of("gp01x1=9,1x1=9").take(), 0);
    due("no goods", of("p9").take(), 0);
    GoodsBook x = planned("p1;p1;gp04x4=5,4x4=5;gp04x4=5,4x4=5;gp01x1=0,1x1=0;abv;can", 1, 2, 1);
    due("from a PLAN that is not SOUND", x.take(), 10);
    due("THE PLAN", row(x, (y, g) -> y.choose(g, y.best(g))), "130");
    due("worth()", x.worth(), 10);
    due("breaks(0)", x.breaks(0), NONE);
    due("breaks(1)", x.breaks(1), NONE);
    due("count(4)", x.count(4), 2);
    due("take() again", x.take(), 10);
    says(22, "THE PLAN counts at once");
    GoodsBook y = of("p1;gp01x1=5,1x1=5");
    due("steps(-2)", y.steps(-2), 1);
    due("mended(0, -1)", y.mended(0, -1), 0);
    due("take()", y.take(), 5);
    due("steps(-2)", y.steps(-2), 0);
    GoodsBook loss = planned("p60;gp01x1=1,1x1=1", 1);
    loss.set(1, 2);
    due("all out is better", loss.take(), 0);
    due("count(4)", loss.count(4), 0);
    GoodsBook all = ALL.make();
    int worth = all.best(-1);
    due("a full book", all.take(), worth);
    due("its WORTH", all.worth(), worth);
    due("no step betters it", all.steps(-2), 0);
  }

  private static void dueSquares(String what, GoodsBook x, String picked, int most) {
    due(what, row(x, (y, g) -> y.squares(0, g)), picked);
    due(what + ", the most", x.squares(0, -1), most);
  }

  private static void squares() {
    says(23, "with 16 SQUARES at most in all (whether they FIT or not): the most");
    dueSquares("no goods", of("p9"), "", 0);
    dueSquares("16 squares", of("p2;gp04x3=5,1x1=0;gp04x1=6,1x1=0"), "11", 22);
    dueSquares("17 squares", of("p2;gp04x4=5,4x4=0;gp01x1=6,1x1=0"), "01", 12);
    dueSquares("16 by itself", of("p60;gp04x4=999,1x1=998"), "1", 59940);
    dueSquares("3 by 3 and 2 by 2", of("p1;gp03x3=5,1x1=0;gp02x2=6,1x1=0"), "11", 11);
    dueSquares("4 by 1 and 1 by 4", of("p1;gp04x1=5,1x1=0;gp01x4=6,1x1=0"), "11", 11);
    dueSquares("six of 1 by 1", of("p60;gp01x1=999,1x1=0" + ";gp01x1=999,1x1=0".repeat(5)), "111111", 6 * 59940);
    dueSquares("six large ones", of("p1;" + SIX_LARGE), "000001", 1);
    dueSquares("what one takes is not left for others", of("p1;gp01x1=0,1x1=0;gp04x2=5,1x1=0;gp04x3=4,4x2=3"), "012", 8);
    dueSquares("SIZE 1 takes, too", of("p1;gp01x1=0,1x1=0;gp01x1=0,4x2=5;gp04x2=3,4x3=4"), "021", 8);
    says(23, "of like ones the first as a row (0 out, 1 SIZE 0, 2 SIZE 1)");
    dueSquares("an unseen PAGE", of("p0;gp01x1=9,1x1=9"), "0", 0);
    dueSquares("nothing sells", of("p9;gp01x1=0,1x1=0;gp01x1=1,1x1=2"), "02", 18);
    dueSquares("like SIZES", of("p1;gp04x4=9,1x1=9"), "1", 9);
    dueSquares("like GOODS", of("p1;gp04x4=9,4x4=9;gp04x4=9,4x4=9"), "01", 9);
    says(23, "none helping nor hurting (SALES times SEEN alone)");
    dueSquares("LEAD", of("p2;gl01x1=1,1x1=0;gp01x1=1,1x1=0"), "11", 4);
    dueSquares("RIVALS", of("p2;gr01x1=1,1x1=0;gr01x1=1,1x1=0"), "11", 4);
    dueSquares("FILLER", of("p2;gf04x4=1,1x1=0"), "1", 2);
    dueSquares("EXTRAS and BONDS", of("p2;gp01x1=1,1x1=0;gp01x1=1,1x1=0;abo+99;abe-99;abv;abh"), "11", 4);
    dueSquares("COST", withSet(of("p2;gp01x1=1,1x1=0"), 1, 999), "1", 2);
    dueSquares("THE PLAN", planned("p2;p2;gp01x1=1,1x1=0", 3), "1", 2);
    says(23, "for a PAGE");
    GoodsBook x = of("p1;p0;p60;gp04x4=3,2x2=2;gp04x3=2,4x4=4");
    int[] most = {4, 0, 240};
    String[] rows = {"02", "00", "02"};
    for (int p = 0; p < 3; p++) {
      int page = p;
      due("the most of PAGE " + p, x.squares(p, -1), most[p]);
      due("of PAGE " + p, row(x, (y, g) -> y.squares(page, g)), rows[p]);
    }
    says(23, "BAD");
    range("squares(0, v), three goods", FEW, (y, v) -> y.squares(0, v), -2, 2, BAD);
    range("squares(2, v), six goods", ALL, (y, v) -> y.squares(2, v), -2, 5, BAD);
    range("squares(v, -1), two pages", FEW, (y, v) -> y.squares(v, -1), 0, 1, BAD);
    range("squares(v, -2), three pages", ALL, (y, v) -> y.squares(v, -2), 0, 2, BAD);
    refused("squares(0, -1), no page", NEW, y -> y.squares(0, -1), BAD);
    due("squares(0, 0), no good", of("p1").squares(0, 0), BAD);
    due("squares(0, -2), no good", of("p1").squares(0, -2), 0);
    due("squares(0, -3), no good", of("p1").squares(0, -3), BAD);
  }

  private static void price() {
    says(23, "ITS PRICE: the least whole number by which all take 16 SQUARES or fewer");
    due("16 squares at 0", of("p1;gp04x2=1,1x1=0;gp04x2=1,1x1=0").squares(0, -2), 0);
    due("17 squares at 0", of("p1;gp04x4=1,1x1=0;gp01x1=9,1x1=0").squares(0, -2), 1);
    due("an unseen PAGE", of("p0;gp04x4=9,4x4=9;gp04x4=9,4x4=9").squares(0, -2), 0);
    due("nothing sells", of("p60;gp04x4=0,4x4=0;gp04x4=0,4x4=0").squares(0, -2), 0);
    due("SIZE 1 of the second", of("p1;gp04x4=1,1x1=0;gp01x1=0,4x4=5").squares(0, -2), 1);
    due("each GOOD has its own SIZES", of("p1;gp01x1=1,4x3=9;gp01x1=1,1x1=1").squares(0, -2), 0);
    says(23, "if that is above 0");
    due("two large ones, 16 by 16: at 0 it is out", of("p16;gp04x4=16,1x1=0;gp04x4=16,1x1=0").squares(0, -2), 16);
    due("two large ones, 1 more", of("p1;gp04x4=257,1x1=0;gp04x4=257,1x1=0").squares(0, -2), 17);
    due("the dearest of these", of("p60;gp04x4=999,1x1=0;gp04x4=999,1x1=0").squares(0, -2), 3747);
    due("one that is cheaper goes", of("p60;gp04x4=999,1x1=0;gp04x4=1,1x1=0").squares(0, -2), 4);
    due("one square goes last", of("p60;gp01x1=999,1x1=0;gp04x4=999,1x1=0").squares(0, -2), 3747);
    due("a SIZE of one square instead", of("p60;gp04x4=999,1x1=999;gp04x3=999,1x1=0").squares(0, -2), 0);
    says(23, "the SIZE with the most, of like ones the fewest SQUARES");
    due("like at 0", of("p1;gp04x4=5,4x1=5;gp04x3=5,4x4=5").squares(0, -2), 0);
    due("SIZE 1 is 4 more for 4 squares: like at 1", of("p1;gp04x2=20,4x3=24;gp04x2=99,4x4=1").squares(0, -2), 1);
    due("SIZE 0 is 4 more for 4 squares: like at 1", of("p1;gp04x3=24,4x2=20;gp04x2=99,4x4=1").squares(0, -2), 1);
    due("SIZE 1 is 5 more for 4 squares: 2", of("p1;gp04x2=20,4x3=25;gp04x2=99,4x4=1").squares(0, -2), 2);
    says(23, "of a PAGE");
    GoodsBook x = of("p1;p60;p2;gp04x4=160,1x1=0;gp04x4=160,1x1=0");
    due("PAGE 0", x.squares(0, -2), 10);
    due("PAGE 1", x.squares(1, -2), 600);
    due("PAGE 2", x.squares(2, -2), 20);
  }

  private static void bound() {
    says(24, "of each GOOD the most that it could BRING by a CHOICE");
    due("nothing there", new GoodsBook().bound(), 0);
    due("no pages", of("gp01x1=9,1x1=9;gl01x1=9,1x1=9").bound(), 0);
    due("unseen PAGES", of("p0;p0;gp01x1=9,1x1=9;gl01x1=9,1x1=9").bound(), 0);
    due("the better SIZE, the better PAGE", of("p3;p7;p5;gp04x4=2,1x1=9").bound(), 63);
    due("whether they FIT or not", of("p1;" + SIX_LARGE).bound(), 6);
    due("the most", of("p60;gf04x4=999,1x1=0" + ";gf04x4=999,1x1=0".repeat(5)).bound(), 6 * 119880);
    says(24, "(LEAD: with all other GOODS on its PAGE; RIVAL: alone; FILLER: twice)");
    due("LEAD alone", of("p2;gl01x1=3,1x1=0").bound(), 6);
    due("LEAD with five", of("p2;gl01x1=3,1x1=0" + ";gp04x4=0,4x4=0".repeat(5)).bound(), 6 + 5 * 2 * 5);
    due("two LEADS", of("p2;gl01x1=3,1x1=0;gl01x1=3,1x1=0").bound(), 2 * (6 + 10));
    due("LEADS 99", withSet(of("p60;gl01x1=999,1x1=0;gp01x1=0,1x1=0"), 0, 99).bound(), 59940 + 5940);
    due("LEADS 0", withSet(of("p60;gl01x1=999,1x1=0;gp01x1=0,1x1=0"), 0, 0).bound(), 59940);
    due("RIVALS", of("p2;gr01x1=3,1x1=0;gr01x1=5,1x1=0").bound(), 16);
    due("FILLER that can't fill", of("p2;gf01x1=3,1x1=0").bound(), 12);
    says(24, "all EXTRAS above 0 times 60, no COSTS");
    GoodsBook x = of("gp01x1=0,1x1=0;gp01x1=0,1x1=0;abo+99;abf+1;abe+2;abo-99;abe+0;abn;abv;abh");
    due("without PAGES", x.bound(), 60 * 102);
    x.page(1);
    due("with a PAGE", x.bound(), 60 * 102);
    x.set(1, 999);
    x.set(2, 999);
    due("no COSTS, no POSTS", x.bound(), 60 * 102);
    x.extra(0, -1);
    due("an EXTRA less", x.bound(), 180);
    plan(x, 1, 2);
    due("THE PLAN does not matter", x.bound(), 180);
  }

  private static void dueSteps(String what, GoodsBook x, String choices, int worth, int many) {
    due(what, row(x, GoodsBook::steps), choices);
    due(what + ", WORTH", x.steps(-1), worth);
    due(what + ", how many", x.steps(-2), many);
  }

  private static void steps() {
    says(25, "nothing there yet");
    dueSteps("no goods", new GoodsBook(), "", 0, 0);
    dueSteps("no pages", of("gp01x1=9,1x1=9;gp01x1=9,1x1=9"), "00", 0, 0);
    says(25, "to a SOUND PLAN of the greatest WORTH that is greater");
    dueSteps("none is greater", planned("p1;gp01x1=5,1x1=5", 2), "2", 5, 0);
    dueSteps("none sells", of("p1;gp01x1=0,1x1=0"), "0", 0, 0);
    dueSteps("out of a loss", withSet(planned("p60;gp01x1=1,1x1=1", 1), 1, 2), "0", 0, 1);
    dueSteps("out of nothing gained, it stays", withSet(planned("p60;gp01x1=1,1x1=1", 1), 1, 1), "1", 0, 0);
    dueSteps("the greatest of several", of("p1;p3;p2;gp01x1=1,1x1=2"), "4", 6, 1);
    dueSteps("not to one that is not SOUND", planned("p1;gp04x4=5,1x1=0;gp01x1=1,1x1=1", 0, 1), "10", 5, 1);
    says(25, "till there is none");
    dueSteps("six steps", of("p1" + ";gp01x1=1,1x1=0".repeat(6)), "111111", 6, 6);
    dueSteps("stuck below the best", planned("p1;gp04x4=5,4x4=5;gp04x2=4,4x2=4;gp04x2=4,4x2=4", 1, 0, 0), "100", 5, 0);
    says(25, "of like ones the first as a row");
    dueSteps("like PAGES", of("p1;p1;p1;gp01x1=3,1x1=3"), "1", 3, 1);
    dueSteps("like GOODS: the last comes first, as 001 is ahead of 100", of("p1;gp04x4=3,4x4=3;gp04x4=3,4x4=3;gp04x4=3,4x4=3"), "001", 3, 1);
    says(25, "or two GOODS' CHOICES changed round (each as 0, 1 .. 6)");
    dueSteps("PAGES changed round", planned("p1;p2;gp04x4=3,4x4=3;gp04x4=4,4x4=4", 3, 1), "13", 11, 1);
    dueSteps("in and out changed round", planned("p1;gp04x4=3,4x4=3;gp04x4=4,4x4=4", 1, 0), "01", 4, 1);
    // Good 0 is worth most as SIZE 1, and so is good 1; with both so, they have no room.
    dueSteps("SIZES changed round", planned("p1;gp04x1=1,4x3=9;gp04x1=5,4x3=6", 1, 2), "21", 14, 1);
    says(25, "CHOICES of PAGES that there are");
    dueSteps("no PAGE to go to", planned("p1;gp01x1=5,1x1=5;gp01x1=0,1x1=0;abn;abo-3", 1, 1), "11", 2, 0);
    dueSteps("a PAGE to go to", planned("p1;p0;gp01x1=5,1x1=5;gp01x1=0,1x1=0;abn;abo-3", 1, 1), "13", 5, 1);
    says(25, "THE PLAN stays");
    GoodsBook x = planned("p1;p2;gp01x1=3,1x1=4", 1);
    dueSteps("one step", x, "4", 8, 1);
    due("THE PLAN", x.choose(0, 0), 1);
    dueSteps("from another PLAN", x, "4", 8, 1);
  }

  private static void stepsRefusals() {
    says(25, "BAD less 1000000000");
    range("steps(v), three goods", FEW, (x, v) -> x.steps(v), -2, 2, LESS + BAD);
    range("steps(v), six goods", Edges::allSound, (x, v) -> x.steps(v), -2, 5, LESS + BAD);
    range("steps(v), no goods", NEW, (x, v) -> x.steps(v), -2, -1, LESS + BAD);
    says(25, "NOT less that: THE PLAN is not SOUND (WORTH less 1000000000, if it is refused)");
    Maker broken = () -> planned("p1;gp01x1=5,1x1=5;gp01x1=5,1x1=5;abn", 1, 0);
    Maker crowded = () -> planned("p1;p1;gp04x4=5,1x1=5;gp01x1=5,1x1=5", 3, 3);
    for (int what = -2; what < 2; what++) {
      int w = what;
      refused("steps(" + w + "), a BOND is not kept", broken, x -> x.steps(w), LESS + NOT);
      refused("steps(" + w + "), a PAGE is too full", crowded, x -> x.steps(w), LESS + NOT);
    }
    says(25, "of several the first that a call names: BAD, NOT");
    refused("steps(-3), not SOUND", broken, x -> x.steps(-3), LESS + BAD);
    refused("steps(2), not SOUND", crowded, x -> x.steps(2), LESS + BAD);
  }

  private static void more() {
    says(26, "A PAGE MORE: the WORTH of THE BEST PLAN, if there were one more, SEEN by so much, less that as it is");
    due("nothing there", new GoodsBook().more(60), 0);
    due("the first PAGE", of("gp01x1=9,1x1=9").more(60), 540);
    due("the first PAGE, unseen", of("gp01x1=9,1x1=9").more(0), 0);
    due("a second, less seen", of("p60;gp01x1=9,1x1=9").more(59), 0);
    due("a second, seen more", of("p59;gp01x1=9,1x1=9").more(60), 9);
    due("a second, for a second GOOD", of("p60;gp04x4=9,4x4=9;gp04x4=7,4x4=7").more(10), 70);
    due("a third", of("p60;p0;gp04x4=9,4x4=9;gp04x4=7,4x4=7").more(1), 7);
    due("a third faces the second", of("p0;p5;gp01x1=0,1x1=0;gp01x1=0,1x1=0;abf+3").more(60), 15);
    due("a second faces none", of("p60;gp01x1=0,1x1=0;gp01x1=0,1x1=0;abf+3").more(60), 0);
    due("its COST is more", withSet(of("p60;gp04x4=9,4x4=9;gp04x4=7,4x4=7"), 1, 7).more(60), 0);
    due("its COST is less", withSet(of("p60;gp04x4=9,4x4=9;gp04x4=7,4x4=7"), 1, 6).more(60), 60);
    due("an unseen one gives room to what is needed", of("p60;gp04x4=9,4x4=9;gp01x1=0,1x1=0;abn").more(0), 540);
    GoodsBook x = of("p60;gp04x4=9,4x4=9;gp04x4=7,4x4=7");
    due("more(60)", x.more(60), 420);
    due("the PAGES stay", x.count(0), 1);
    due("the best stays", x.best(-1), 540);
    says(26, "BAD less 1000000000");
    range("more(v)", FEW, (y, v) -> y.more(v), 0, 60, LESS + BAD);
    range("more(v)", NEW, (y, v) -> y.more(v), 0, 60, LESS + BAD);
    says(26, "FULL less that");
    refused("more(30) of three", ALL, y -> y.more(30), LESS + FULL);
    refused("more(0) of three", ALL, y -> y.more(0), LESS + FULL);
    says(26, "of several the first that a call names: BAD, FULL");
    refused("more(61) of three", ALL, y -> y.more(61), LESS + BAD);
    refused("more(-1) of three", ALL, y -> y.more(-1), LESS + BAD);
  }

  private static void less() {
    says(27, "A PAGE LESS: likewise, without a PAGE (its GOODS elsewhere)");
    due("the only PAGE", of("p60;gp01x1=9,1x1=9").less(0), -540);
    due("no goods", of("p60").less(0), 0);
    GoodsBook x = planned("p10;p20;p30;gp04x4=9,4x4=9;gp04x4=7,4x4=7", 1, 1);
    int[] less = {0, 270 + 70 - (270 + 140), 180 + 70 - (270 + 140)};
    for (int p = 0; p < 3; p++) due("less(" + p + ")", x.less(p), less[p]);
    due("the PAGES stay", x.count(0), 3);
    due("THE PLAN stays", x.count(4), 2);
    due("the best stays", x.best(-1), 410);
    due("its COST is spared, but not gained", withSet(of("p60;gp01x1=9,1x1=9"), 1, 9).less(0), 0);
    due("an unseen one gave room to what is needed", of("p60;p0;gp04x4=9,4x4=9;gp01x1=0,1x1=0;abn").less(1), -540);
    due("no room for what is needed, with it or without", of("p60;gp04x4=9,4x4=9;gp01x1=0,1x1=0;abn").less(0), 0);
    says(27, "PAGES behind it go one down, which lie open together is by new numbers");
    GoodsBook facing = of("p7;p5;p3;gp04x4=0,4x4=0;gp04x4=0,4x4=0;abf+1");
    for (int p = 0; p < 3; p++) due("less(" + p + "): none face", facing.less(p), -3);
    GoodsBook ahead = of("p7;p5;p3;gp01x1=1,1x1=1;gp01x1=9,1x1=9;abh");
    due("best(-1)", ahead.best(-1), 63);
    GoodsBook both = of("p7;p5;p3;gp01x1=1,1x1=1;gp01x1=9,1x1=9;abh;ban");
    due("best(-1)", both.best(-1), 52);
    due("without PAGE 0", both.less(0), 5 + 27 - 52);
    due("without PAGE 1", both.less(1), 7 + 27 - 52);
    due("without PAGE 2", both.less(2), 0);
    GoodsBook away = of("p10;p10;p10;" + "gp04x4=5,4x4=5;gp04x4=5,4x4=5;gp04x4=5,4x4=5;abf-9;acf-9;bcf-9");
    due("best(-1)", away.best(-1), 100);
    due("two that do not face are as good", away.less(0), 0);
    says(27, "BAD less 1000000000");
    range("less(v), two pages", FEW, (y, v) -> y.less(v), 0, 1, LESS + BAD);
    range("less(v), three pages", ALL, (y, v) -> y.less(v), 0, 2, LESS + BAD);
    refused("less(0), no page", NEW, y -> y.less(0), LESS + BAD);
  }

  private static void through() {
    says(28, "by how much WORTH of THE PLAN is less without it, less what it BRINGS itself");
    due("alone", planned("p1;gp01x1=5,1x1=5", 1).through(0), 0);
    due("one that is led", planned("p2;gl01x1=5,1x1=5;gp01x1=1,1x1=1", 1, 1).through(1), 10);
    due("a LEAD", planned("p2;gl01x1=5,1x1=5;gp01x1=1,1x1=1", 1, 1).through(0), 0);
    due("LEADS of each other", planned("p2;gl01x1=5,1x1=5;gl01x1=1,1x1=1", 1, 1).through(0), 10);
    due("a RIVAL", planned("p1;gr01x1=5,1x1=5;gr01x1=9,1x1=9", 1, 1).through(0), 4 - 9);
    due("what is cut is gained back", planned("p1;gr01x1=5,1x1=5;gr01x1=8,1x1=8", 1, 1).through(1), 2 - 5);
    due("one that fills", planned("p1;gf03x4=5,1x1=5;gp01x4=0,1x1=0", 1, 1).through(1), 5);
    due("one too many", planned("p1;gf04x4=5,1x1=5;gp01x1=0,1x1=0", 1, 1).through(1), 5 - 10);
    due("an EXTRA", planned("p2;gp01x1=5,1x1=5;gp01x1=1,1x1=1;abo+99;bae-9", 1, 1).through(0), 180);
    due("COST and POST of its PAGE", withSet(withSet(planned("p2;gp01x1=5,1x1=5", 1), 1, 999), 2, 999).through(0), -2 * 59940);
    due("COST of a PAGE with others", withSet(planned("p2;gp01x1=5,1x1=5;gp01x1=5,1x1=5", 1, 1), 1, 999).through(0), 0);
    due("POST of a third PAGE", withSet(planned("p0;p0;p0" + ";gp01x1=5,1x1=5".repeat(3), 1, 3, 5), 2, 7).through(2), -420);
    due("POST of a second PAGE", withSet(planned("p0;p0;p0" + ";gp01x1=5,1x1=5".repeat(3), 1, 3, 0), 2, 7).through(1), 0);
    says(28, "(it out, others as they are, whether they KEEP BONDS or not)");
    GoodsBook x = planned("p1;gp01x1=5,1x1=5;gp01x1=5,1x1=5;abn;abe+3", 1, 1);
    due("the one that is needed", x.through(1), 3);
    due("THE PLAN stays", x.count(4), 2);
    due("it does not FIT", planned("p1;gp04x4=5,1x1=5;gp04x4=5,1x1=5;abe+3", 1, 1).through(1), 3);
    says(28, "BAD less 1000000000");
    range("through(v), six goods", ALL, (y, v) -> y.through(v), 0, 5, LESS + BAD);
    refused("through(3) of three", FEW, y -> y.through(3), LESS + BAD);
    refused("through(-1)", FEW, y -> y.through(-1), LESS + BAD);
    refused("through(0), no good", NEW, y -> y.through(0), LESS + BAD);
    says(28, "NONE less that: it is out");
    refused("through(2), out", FEW, y -> y.through(2), LESS + NONE);
  }

  private static void dueMended(String what, GoodsBook x, int out, String choices, int worth, int unlike) {
    due(what, row(x, (y, g) -> y.mended(out, g)), choices);
    due(what + ", WORTH", x.mended(out, -1), worth);
    due(what + ", unlike", x.mended(out, -2), unlike);
  }

  private static void mended() {
    String three = "p1;p2;gp01x1=1,1x1=1;gp01x1=2,1x1=2;gp01x1=3,1x1=3";
    says(29, "of SOUND PLANS in which it is out");
    dueMended("one GOOD alone", planned("p1;gp01x1=1,1x1=1", 2), 0, "0", 0, 0);
    dueMended("it is out already", planned(three, 0, 1, 2), 0, "012", 5, 0);
    dueMended("all are out", of(three), 1, "000", 0, 0);
    dueMended("no PAGES", of("gp01x1=1,1x1=1;gp01x1=1,1x1=1"), 1, "00", 0, 0);
    says(29, "those in which the fewest other CHOICES are unlike THE PLAN's");
    dueMended("none has to be, though more could be had", planned(three, 1, 1, 1), 0, "011", 5, 0);
    dueMended("one that needs it goes", planned(three + ";ban", 1, 1, 1), 0, "001", 3, 1);
    dueMended("all that need it go", planned(three + ";ban;can", 1, 1, 1), 0, "000", 0, 2);
    dueMended("one after another", planned(three + ";ban;cbn", 1, 1, 1), 0, "000", 0, 2);
    dueMended("a PAGE too full before", planned("p1;p2;gp04x4=1,1x1=9;gp04x4=2,1x1=2;gp01x1=3,1x1=3", 1, 1, 3), 0, "013", 8, 0);
    GoodsBook six = planned("p1" + ";gp04x4=1,4x4=1".repeat(6), 1, 1, 1, 1, 1, 1);
    dueMended("four of five go", six, 5, "000010", 1, 4);
    String round = "p9" + ";gp01x1=1,1x1=1".repeat(6) + ";ban;can;dan;ean;fan";
    dueMended("all five go", planned(round, 1, 1, 1, 1, 1, 1), 0, "000000", 0, 5);
    String both = "gp04x4=5,4x4=5;gp04x4=5,4x4=5;gp01x1=0,1x1=0;abn;ban";
    dueMended("no PAGE to go to", planned("p1;" + both, 1, 1, 0), 2, "000", 0, 2);
    dueMended("a PAGE to go to", planned("p1;p0;" + both, 1, 1, 0), 2, "130", 5, 1);
    GoodsBook after = planned("p1;" + both, 1, 1, 1);
    due("best asked ahead", after.best(-1), 0);
    dueMended("best asked ahead", after, 2, "000", 0, 2);
    says(29, "of these the greatest WORTH");
    dueMended("not SOUND: the better way", planned("p1;p2;gp01x1=1,1x1=1;gp01x1=2,1x1=2;gp01x1=3,1x1=3;bcv", 0, 1, 1), 0, "013", 8, 1);
    dueMended("a loss, if least is moved", withSet(planned(three, 1, 1, 0), 1, 9), 0, "010", 2 - 540, 0);
    dueMended("both signs", withSet(withSet(planned(three, 1, 1, 3), 1, 999), 2, 999), 0, "013", 2 + 6 - 3 * 59940, 0);
    says(29, "of like ones the first as a row");
    dueMended("like GOODS", planned("p1;p1;gp01x1=1,1x1=1;gp01x1=2,1x1=2;gp01x1=2,1x1=2;bcv", 1, 1, 1), 0, "013", 4, 1);
    dueMended("like PAGES", planned("p1;p1;p1;gp04x4=0,4x4=0;gp04x4=2,4x4=2;gp04x4=2,4x4=2", 0, 5, 5), 0, "015", 4, 1);
    says(29, "a GOOD is out of stock: of each by itself, THE PLAN stays");
    GoodsBook x = planned(three, 1, 2, 3);
    dueMended("GOOD 0", x, 0, "023", 8, 0);
    dueMended("GOOD 1", x, 1, "103", 7, 0);
    dueMended("GOOD 2", x, 2, "120", 3, 0);
    dueMended("GOOD 0 again", x, 0, "023", 8, 0);
    due("THE PLAN", row(x, (y, g) -> y.choose(g, 0)), "123");
  }

  private static void mendedRefusals() {
    says(29, "BAD less 1000000000");
    range("mended(0, v), three goods", FEW, (x, v) -> x.mended(0, v), -2, 2, LESS + BAD);
    range("mended(5, v), six goods", ALL, (x, v) -> x.mended(5, v), -2, 5, LESS + BAD);
    range("mended(v, -1), three goods", FEW, (x, v) -> x.mended(v, -1), 0, 2, LESS + BAD);
    range("mended(v, -2), six goods", ALL, (x, v) -> x.mended(v, -2), 0, 5, LESS + BAD);
    refused("mended(0, -1), no good", NEW, x -> x.mended(0, -1), LESS + BAD);
    refused("mended(0, -2), no good", NEW, x -> x.mended(0, -2), LESS + BAD);
    refused("mended(-1, -1): no GOOD -1", FEW, x -> x.mended(-1, -1), LESS + BAD);
  }
}
