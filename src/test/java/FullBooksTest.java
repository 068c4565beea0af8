import java.util.Random;

/** Large books by chance (always the same ones): what is best, of GoodsBook and of PlainBook, which goes through all. */
public final class FullBooksTest {
  private final Random chance;
  private final GoodsBook x = new GoodsBook();
  private final PlainBook y = new PlainBook();
  /** What the books of this run have in common, so that each bound of the search matters in some. */
  private final int manner;
  private final int pages;
  private final int goods;
  private final StringBuilder told = new StringBuilder();
  private boolean wrong;

  private FullBooksTest(int seed) {
    chance = new Random(seed * 7919L);
    manner = seed % 8;
    pages = upTo(2) == 0 ? 2 : 3;
    goods = upTo(2) == 0 ? 5 : 6;
  }

  public static void main(String[] args) {
    int runs = args.length > 0 ? Integer.parseInt(args[0]) : 80;
    int from = args.length > 1 ? Integer.parseInt(args[1]) : 0;
    int wrong = 0;
    for (int seed = from; seed < from + runs; seed++) {
      FullBooksTest run = new FullBooksTest(seed);
      run.make();
      run.ask();
      if (!run.wrong) continue;
      wrong++;
      System.out.println("seed " + seed + run.told);
    }
    System.out.println(runs + " large books, " + wrong + " wrong");
    if (wrong > 0) System.exit(1);
  }

  private int upTo(int n) {
    return chance.nextInt(n + 1);
  }

  private void due(String call, int got, int want) {
    told.append("\n  ").append(call).append(" -> ").append(got);
    if (got == want) return;
    wrong = true;
    told.append(", due is ").append(want);
  }

  private void make() {
    for (int p = 0; p < pages; p++) {
      int seen = manner == 7 ? upTo(3) : upTo(2) == 0 ? 60 : upTo(60);
      due("page(" + seen + ")", x.page(seen), y.page(seen));
    }
    for (int g = 0; g < goods; g++) {
      int kind = manner >= 1 && manner <= 3 ? manner : upTo(3), family = upTo(1);
      due("good(" + kind + ", " + family + ")", x.good(kind, family), y.good(kind, family));
      for (int z = 0; z < 2; z++) size(g, z);
    }
    int bonds = upTo(12);
    for (int i = 0; i < bonds; i++) bond();
    for (int what = 0; what < 3; what++) {
      int v = what == 0 ? upTo(99) : upTo(upTo(200));
      if (upTo(1) == 0) due("set(" + what + ", " + v + ")", x.set(what, v), y.set(what, v));
    }
  }

  private void size(int g, int z) {
    int side = manner == 4 ? 1 : 3, w = 1 + upTo(side), h = 1 + upTo(side);
    int sale = manner == 5 ? upTo(2) : manner == 0 ? 10 * w * h : upTo(20 * w * h);
    due("size(" + g + ", " + z + ", " + w + ", " + h + ", " + sale + ")", x.size(g, z, w, h, sale), y.size(g, z, w, h, sale));
  }

  private void bond() {
    int kind = upTo(upTo(5)), a = upTo(goods - 1), b = (a + 1 + upTo(goods - 2)) % goods;
    int extra = kind > 2 ? 0 : manner == 0 ? 99 : upTo(198) - 99;
    due("bond(" + kind + ", " + a + ", " + b + ", " + extra + ")", x.bond(kind, a, b, extra), y.bond(kind, a, b, extra));
  }

  private void ask() {
    for (int what = -1; what < goods; what++) due("best(" + what + ")", x.best(what), y.best(what));
    int page = upTo(pages - 1), seen = upTo(60), good = upTo(goods - 1);
    due("less(" + page + ")", x.less(page), y.less(page));
    due("more(" + seen + ")", x.more(seen), y.more(seen));
    due("bound()", x.bound(), y.bound());
    for (int g = 0; g < goods; g++) {
      int choice = upTo(1) * upTo(2 * pages);
      due("choose(" + g + ", " + choice + ")", x.choose(g, choice), y.choose(g, choice));
    }
    for (int what = -2; what < goods; what++) {
      due("steps(" + what + ")", x.steps(what), y.steps(what));
      due("mended(" + good + ", " + what + ")", x.mended(good, what), y.mended(good, what));
      due("squares(" + page + ", " + what + ")", x.squares(page, what), y.squares(page, what));
    }
  }
}
