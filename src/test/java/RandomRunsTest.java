import java.util.Random;

/** Runs of calls by chance (always the same ones) on GoodsBook and on PlainBook: both must answer alike. */
public final class RandomRunsTest {
  /** What an object answers behind so many calls is free. */
  private static final int CALLS = 512;

  private final Random chance;
  private final GoodsBook x = new GoodsBook();
  private final PlainBook y = new PlainBook();
  private final StringBuilder told = new StringBuilder();
  private final int mostGoods;
  private final int mostPages;
  private int heavyLeft;
  private int calls;
  private boolean wrong;

  private RandomRunsTest(long seed, int mostGoods, int mostPages, int heavyLeft) {
    chance = new Random(seed);
    this.mostGoods = mostGoods;
    this.mostPages = mostPages;
    this.heavyLeft = heavyLeft;
  }

  public static void main(String[] args) {
    int runs = args.length > 0 ? Integer.parseInt(args[0]) : 1000;
    int from = args.length > 1 ? Integer.parseInt(args[1]) : 0;
    int wrong = 0;
    for (int seed = from; seed < from + runs; seed++) {
      boolean large = seed % 20 == 0;
      RandomRunsTest run = new RandomRunsTest(seed, large ? 6 : 1 + seed % 4, large ? 3 : seed / 4 % 4, large ? 8 : 60);
      run.go();
      if (!run.wrong) continue;
      wrong++;
      System.out.println("seed " + seed + run.told);
    }
    System.out.println(runs + " runs by chance, " + wrong + " wrong");
    if (wrong > 0) System.exit(1);
  }

  private int upTo(int n) {
    return chance.nextInt(n + 1);
  }

  /** Mostly within, at times just outside, seldom far off. */
  private int about(int least, int most) {
    int kind = upTo(39);
    if (kind == 0) return least - 1;
    if (kind == 1) return most + 1;
    if (kind == 2) return chance.nextBoolean() ? Integer.MAX_VALUE : Integer.MIN_VALUE;
    if (kind == 3) return chance.nextInt();
    if (kind == 4) return most;
    return least + upTo(Math.max(most - least, 0));
  }

  private int aGood() {
    return about(0, Math.max(y.count(1) - 1, 0));
  }

  private int aPage() {
    return about(0, Math.max(y.count(0) - 1, 0));
  }

  private void due(String call, int got, int want) {
    calls++;
    if (told.length() < 20000) told.append("\n  ").append(call).append(" -> ").append(got);
    if (got == want) return;
    wrong = true;
    told.append(", due is ").append(want);
  }

  private void go() {
    if (upTo(4) > 0) begin();
    for (int i = 0; i < CALLS && calls < CALLS && !wrong; i++) call();
  }

  /** Most of what a run can hold, so that the calls behind it have something to ask of. */
  private void begin() {
    for (int i = 0; i < mostPages; i++) {
      int seen = upTo(60);
      due("page(" + seen + ")", x.page(seen), y.page(seen));
    }
    for (int g = 0; g < mostGoods; g++) {
      int kind = upTo(3), family = upTo(2) / 2;
      due("good(" + kind + ", " + family + ")", x.good(kind, family), y.good(kind, family));
      for (int z = 0; z < 2; z++) {
        int w = 1 + upTo(upTo(3)), h = 1 + upTo(upTo(3)), sale = upTo(w * h * 20);
        due("size(" + g + ", " + z + ", " + w + ", " + h + ", " + sale + ")", x.size(g, z, w, h, sale), y.size(g, z, w, h, sale));
      }
    }
    int bonds = mostGoods < 2 ? 0 : upTo(upTo(12));
    for (int i = 0; i < bonds; i++) {
      int kind = upTo(5), a = upTo(mostGoods - 1), b = (a + 1 + upTo(mostGoods - 2)) % mostGoods, extra = kind > 2 ? 0 : upTo(198) - 99;
      due("bond(" + kind + ", " + a + ", " + b + ", " + extra + ")", x.bond(kind, a, b, extra), y.bond(kind, a, b, extra));
    }
  }

  private void call() {
    switch (upTo(5)) {
      case 0: tell(); break;
      case 1: tellMore(); break;
      case 2: ask(); break;
      case 3: sheets(); break;
      case 4: years(); break;
      default: if (heavyLeft-- > 0) askBest(); else ask();
    }
  }

  private void tell() {
    int a = aGood(), b = aGood();
    switch (upTo(6)) {
      case 0:
        if (y.count(0) >= mostPages && upTo(9) > 0 && mostPages < 3) break;
        int seen = about(0, 60);
        due("page(" + seen + ")", x.page(seen), y.page(seen));
        break;
      case 1:
        if (y.count(1) >= mostGoods && mostGoods < 6) break;
        int kind = about(0, 3), family = upTo(3) == 0 ? about(0, 3) : 0;
        due("good(" + kind + ", " + family + ")", x.good(kind, family), y.good(kind, family));
        break;
      case 2:
      case 3:
        int z = about(0, 1), w = about(1, 4), h = about(1, 4), sale = upTo(2) == 0 ? about(0, 999) : about(0, 20);
        due("size(" + a + ", " + z + ", " + w + ", " + h + ", " + sale + ")", x.size(a, z, w, h, sale), y.size(a, z, w, h, sale));
        break;
      case 4:
        int k = about(0, 5), extra = k >= 3 && upTo(9) > 0 ? 0 : about(-99, 99);
        due("bond(" + k + ", " + a + ", " + b + ", " + extra + ")", x.bond(k, a, b, extra), y.bond(k, a, b, extra));
        break;
      case 5:
        int p = aPage(), v = about(0, 60);
        due("seen(" + p + ", " + v + ")", x.seen(p, v), y.seen(p, v));
        break;
      default:
        int bond = about(0, Math.max(y.count(2) - 1, 0)), e = about(-99, 99);
        due("extra(" + bond + ", " + e + ")", x.extra(bond, e), y.extra(bond, e));
    }
  }

  private void tellMore() {
    switch (upTo(5)) {
      case 0:
        int what = about(0, 2), v = what == 0 ? about(0, 99) : upTo(9) == 0 ? about(0, 999) : upTo(3) * upTo(20);
        due("set(" + what + ", " + v + ")", x.set(what, v), y.set(what, v));
        break;
      case 1:
        if (upTo(3) == 0) text();
        break;
      case 2:
        if (upTo(5) == 0) due("image()", x.image(), y.image());
        break;
      case 3:
        if (upTo(9) == 0) due("restore()", x.restore(), y.restore());
        break;
      default:
        int g = aGood(), c = about(0, 2 * y.count(0));
        due("choose(" + g + ", " + c + ")", x.choose(g, c), y.choose(g, c));
    }
  }

  private void ask() {
    int g = aGood();
    switch (upTo(8)) {
      case 0: due("brings(" + g + ")", x.brings(g), y.brings(g)); break;
      case 1: due("worth()", x.worth(), y.worth()); break;
      case 2:
        int what = about(0, 1);
        due("breaks(" + what + ")", x.breaks(what), y.breaks(what));
        break;
      case 3: due("square(" + g + ")", x.square(g), y.square(g)); break;
      case 4:
        int all = (int) Math.pow(3, y.count(1)), sizes = about(0, all - 1);
        due("fits(" + sizes + ")", x.fits(sizes), y.fits(sizes));
        break;
      case 5:
        int fact = about(0, 7);
        due("told(" + g + ", " + fact + ")", x.told(g, fact), y.told(g, fact));
        break;
      case 6:
        int of = about(0, 4);
        due("count(" + of + ")", x.count(of), y.count(of));
        break;
      case 7: due("through(" + g + ")", x.through(g), y.through(g)); break;
      default: due("bound()", x.bound(), y.bound());
    }
  }

  private void askBest() {
    int g = aGood(), w = about(-2, Math.max(y.count(1) - 1, -1)), p = aPage();
    switch (upTo(6)) {
      case 0: due("best(" + w + ")", x.best(w), y.best(w)); break;
      case 1: if (upTo(4) == 0) due("take()", x.take(), y.take()); break;
      case 2: due("squares(" + p + ", " + w + ")", x.squares(p, w), y.squares(p, w)); break;
      case 3: due("steps(" + w + ")", x.steps(w), y.steps(w)); break;
      case 4: due("mended(" + g + ", " + w + ")", x.mended(g, w), y.mended(g, w)); break;
      case 5:
        int seen = about(0, 60);
        due("more(" + seen + ")", x.more(seen), y.more(seen));
        break;
      default: due("less(" + p + ")", x.less(p), y.less(p));
    }
  }

  private void sheets() {
    int s = upTo(7) == 0 ? about(0, 3) : 0, lane = upTo(7) == 0 ? about(0, 2) : 2;
    switch (upTo(9)) {
      case 0:
        int n = upTo(3) == 0 ? about(0, 16) : 16;
        due("sheet(" + s + ", " + lane + ", " + n + ")", x.sheet(s, lane, n), y.sheet(s, lane, n));
        break;
      case 1:
        if (upTo(5) == 0) due("drop(" + s + ")", x.drop(s), y.drop(s));
        break;
      case 2:
      case 3:
        int from = about(0, 12);
        due("plan(" + s + ", " + lane + ", " + from + ")", x.plan(s, lane, from), y.plan(s, lane, from));
        break;
      case 4:
      case 5:
      case 6:
        int p = aPage(), first = about(0, 14);
        due("judge(" + p + ", " + s + ", " + lane + ", " + first + ")", x.judge(p, s, lane, first), y.judge(p, s, lane, first));
        break;
      default:
        int i = about(0, 15), v = upTo(9) == 0 ? chance.nextInt() : about(0, upTo(3) == 0 ? 15 : 2 * y.count(0));
        due("item(" + s + ", " + lane + ", " + i + ", " + v + ")", x.item(s, lane, i, v), y.item(s, lane, i, v));
    }
  }

  private void years() {
    int g = aGood();
    if (upTo(3) == 0) {
      int z = about(0, 1), sold = upTo(2) == 0 ? about(0, 999) : 10 * about(0, 9);
      due("year(" + g + ", " + z + ", " + sold + ")", x.year(g, z, sold), y.year(g, z, sold));
      return;
    }
    int what = about(0, 3);
    due("learnt(" + g + ", " + what + ")", x.learnt(g, what), y.learnt(g, what));
  }

  // ---- texts

  private void text() {
    String text = upTo(30) == 0 ? "" : clauses();
    if (upTo(2) == 0) text = spoilt(text);
    for (int at = 0; at < text.length() && calls < CALLS - 1; ) {
      int n = Math.min(1 + upTo(7), text.length() - at);
      long w = chance.nextLong();
      for (int i = 0; i < n; i++) w = w << 8 | text.charAt(at + i);
      if (upTo(60) == 0) w ^= 0x80;
      if (upTo(60) == 0) n = about(1, 8);
      due("type(" + w + ", " + n + ")", x.type(w, n), y.type(w, n));
      at += Math.min(Math.max(n, 1), 8);
    }
    due("book() of '" + text + "'", x.book(), y.book());
  }

  private String clauses() {
    StringBuilder text = new StringBuilder();
    int n = upTo(9) == 0 ? 10 + upTo(4) : 1 + upTo(4);
    int goods = y.count(1);
    int pages = y.count(0);
    for (int i = 0; i < n; i++) {
      if (i > 0) text.append(';');
      if ((pages >= mostPages || upTo(2) == 0) && (goods < mostGoods || upTo(40) == 0)) {
        goods++;
        text.append('g').append("plrf".charAt(upTo(3))).append(upTo(3)).append(aSize()).append(',').append(aSize());
      } else if (goods >= 2 && upTo(4) > 0) {
        int a = upTo(Math.min(goods, 6) - 1), b = upTo(Math.min(goods, 6) - 1);
        if (a == b && upTo(9) > 0) b = a == 0 ? 1 : 0;
        text.append((char) ('a' + a)).append((char) ('a' + b)).append(aKind());
      } else if (pages < mostPages || upTo(9) == 0) {
        pages++;
        text.append('p').append(aNumber(60));
      } else {
        text.append("abn");
      }
    }
    return text.toString();
  }

  private String aKind() {
    int kind = upTo(5);
    String sign = "ofenvh".substring(kind, kind + 1);
    return kind > 2 ? sign : sign + "+-".charAt(upTo(1)) + aNumber(99);
  }

  private String aSize() {
    return "" + (1 + upTo(3)) + "x" + (1 + upTo(3)) + "=" + aNumber(999);
  }

  private String aNumber(int most) {
    int n = upTo(30) == 0 ? most + 1 : upTo(30) == 0 ? most : upTo(most);
    return (upTo(9) == 0 ? "000000000000".substring(upTo(11)) : "") + n;
  }

  private String spoilt(String text) {
    StringBuilder out = new StringBuilder(text);
    int times = 1 + upTo(4);
    for (int i = 0; i < times; i++) {
      int at = upTo(out.length());
      switch (upTo(3)) {
        case 0: if (at < out.length()) out.setCharAt(at, (char) (32 + upTo(94))); break;
        case 1: if (at < out.length()) out.deleteCharAt(at); break;
        case 2: out.insert(at, "pglrfabcdefonvh0123459;,x=+-".charAt(upTo(27))); break;
        default: out.insert(at, ' ');
      }
    }
    return out.toString();
  }
}
