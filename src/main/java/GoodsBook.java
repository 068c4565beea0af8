import java.util.Arrays;

/**
 * A book of goods with few pages of squares: what a plan of it is worth, and which plan is best.
 * The words in capitals are those of the document.
 */
public final class GoodsBook {
  public static final int BAD = -1, NOT = -2, FULL = -3, NONE = -4, NULL = -11, CAST = -12, INDEX = -13, SIZE = -14;

  /** Refusals of calls that tell numbers of both signs are that much less. */
  private static final int BOTH = -1000000000;
  /** What may be asked of a PLAN that was found, beside its CHOICES: its WORTH, a number that goes with it. */
  private static final int ASK_AMOUNT = -1, ASK_COUNT = -2;
  private static final int MOST_PAGES = 3, MOST_GOODS = 6, MOST_BONDS = 12, MOST_YEARS = 12, MOST_CLAUSES = 12;
  private static final int MOST_SEEN = 60, MOST_SALE = 999, MOST_EXTRA = 99, SIDE = 4, SQUARES = 16, SIXTIETHS = 60;
  private static final int PLAIN = 0, LEAD = 1, RIVAL = 2, FILLER = 3;
  private static final int ON = 0, FACING = 1, ANYWHERE = 2, NEEDS = 3, NEVER = 4, AHEAD = 5;
  private static final int LEADS = 0, COST = 1, POST = 2;
  private static final int[] MOST_SET = {99, 999, 999};
  /** What a digit in threes counts at the place of a GOOD. */
  private static final int[] THREES = {1, 3, 9, 27, 81, 243};
  private static final int ALL_THREES = 729;
  /** More than halve any range here to one number. */
  private static final int MOST_HALVINGS = 32;

  private final Book now = new Book();
  private final Book spare = new Book();
  private final Book kept = new Book();
  private boolean isKept;
  private final Tape tape = new Tape();
  private final Sheets sheets = new Sheets();
  private final Floor floor = new Floor(now.goods);
  private final Draft draft = new Draft(now, floor);
  private final Search search = new Search(draft, now.bonds);
  private final Sack sack = new Sack(now.goods);
  private final int[] laid = new int[MOST_GOODS];
  private final Answer bestKnown = new Answer();
  private final Answer stepsKnown = new Answer();
  private final Answer mendedKnown = new Answer();
  private int mendedGood = -1;

  public GoodsBook() {
  }

  // ---- 1 pages, goods, bonds

  public int page(int seen) {
    if (!within(seen, 0, MOST_SEEN)) return BAD;
    int number = now.addPage(seen);
    forgetAnswers();
    return number;
  }

  public int seen(int page, int v) {
    if (!isPage(page) || !within(v, 0, MOST_SEEN)) return BAD;
    int was = now.views[page];
    now.views[page] = v;
    forgetAnswers();
    return was;
  }

  public int good(int kind, int family) {
    if (!within(kind, PLAIN, FILLER) || !within(family, 0, 3)) return BAD;
    int number = now.goods.add(kind, family);
    forgetSizes();
    return number;
  }

  public int size(int good, int size, int wide, int high, int sale) {
    if (!isGood(good) || !within(size, 0, 1)) return BAD;
    if (!within(wide, 1, SIDE) || !within(high, 1, SIDE) || !within(sale, 0, MOST_SALE)) return BAD;
    int was = now.goods.sale[2 * good + size];
    now.goods.measure(good, size, wide, high, sale);
    forgetSizes();
    return was;
  }

  public int told(int good, int what) {
    if (!isGood(good) || !within(what, 0, 7)) return BAD;
    return now.goods.fact(good, what);
  }

  public int bond(int kind, int a, int b, int extra) {
    if (!within(kind, ON, AHEAD) || !isGood(a) || !isGood(b) || a == b) return BAD;
    int most = kind <= ANYWHERE ? MOST_EXTRA : 0;
    if (!within(extra, -most, most)) return BAD;
    int number = now.bonds.add(kind, a, b, extra);
    forgetAnswers();
    return number;
  }

  public int extra(int bond, int v) {
    if (!within(bond, 0, now.bonds.held - 1) || !within(v, -MOST_EXTRA, MOST_EXTRA)) return BOTH + BAD;
    if (now.bonds.kind[bond] > ANYWHERE) return BOTH + CAST;
    int was = now.bonds.extra[bond];
    now.bonds.extra[bond] = v;
    forgetAnswers();
    return was;
  }

  public int set(int what, int v) {
    if (!within(what, LEADS, POST) || !within(v, 0, MOST_SET[what])) return BAD;
    int was = now.settings[what];
    now.settings[what] = v;
    forgetAnswers();
    return was;
  }

  public int type(long w, int n) {
    return tape.append(w, n);
  }

  public int book() {
    spare.become(now);
    int answer = tape.read(spare);
    tape.wipe();
    if (answer < 0) return answer;
    now.become(spare);
    forgetSizes();
    return answer;
  }

  public int count(int what) {
    switch (what) {
      case 0: return now.pages;
      case 1: return now.goods.held;
      case 2: return now.bonds.held;
      case 3: return now.years.held;
      case 4: return now.countIn();
      default: return BAD;
    }
  }

  // ---- 2 plans

  public int choose(int good, int choice) {
    if (!isGood(good) || !now.isChoice(choice)) return BAD;
    int was = now.choices[good];
    now.choices[good] = choice;
    forgetPlanAnswers();
    return was;
  }

  public int plan(int sheet, int lane, int from) {
    int refusal = sheets.refusal(sheet, lane, from, now.goods.held);
    if (refusal != 0) return refusal;
    for (int i = 0; i < now.goods.held; i++) {
      if (!now.isChoice(sheets.value(sheet, from + i))) return NOT;
    }
    for (int i = 0; i < now.goods.held; i++) now.choices[i] = sheets.value(sheet, from + i);
    forgetPlanAnswers();
    return now.countIn();
  }

  public int brings(int good) {
    if (!isGood(good)) return BAD;
    if (now.choices[good] == 0) return NONE;
    drawPlan();
    return draft.share(good, 0);
  }

  public int worth() {
    drawPlan();
    return draft.amount();
  }

  public int breaks(int what) {
    if (!within(what, 0, 1)) return BAD;
    drawPlan();
    return what == 0 ? draft.firstBroken() : draft.firstCrowded();
  }

  public int square(int good) {
    if (!isGood(good)) return BAD;
    int choice = now.choices[good];
    if (choice == 0) return NOT;
    drawPlan();
    return floor.lay(draft.code[pageOf(choice)], laid) ? laid[good] : NONE;
  }

  public int judge(int page, int sheet, int lane, int from) {
    if (!isPage(page)) return BAD;
    drawPlan();
    int refusal = sheets.refusal(sheet, lane, from, draft.crowd[page]);
    if (refusal != 0) return refusal;
    int taken = 0;
    int item = from;
    for (int good = 0; good < now.goods.held; good++) {
      int choice = now.choices[good];
      if (choice == 0 || pageOf(choice) != page) continue;
      int spot = floor.spot(2 * good + sizeOf(choice), sheets.value(sheet, item));
      if (spot == 0 || (spot & taken) != 0) return good;
      taken |= spot;
      item++;
    }
    return NONE;
  }

  public int fits(int sizes) {
    int end = now.goods.held < MOST_GOODS ? THREES[now.goods.held] : ALL_THREES;
    if (!within(sizes, 0, end - 1)) return BAD;
    floor.measureOnce();
    return floor.lies(sizes) ? 1 : 0;
  }

  // ---- 3 the best

  public int best(int what) {
    if (!within(what, ASK_AMOUNT, now.goods.held - 1)) return BOTH + BAD;
    findBest(-1, -1);
    return bestKnown.tell(what);
  }

  public int take() {
    findBest(-1, -1);
    System.arraycopy(bestKnown.row, 0, now.choices, 0, MOST_GOODS);
    forgetPlanAnswers();
    return bestKnown.amount;
  }

  public int squares(int page, int what) {
    if (!isPage(page) || !within(what, ASK_COUNT, now.goods.held - 1)) return BAD;
    if (what == ASK_COUNT) return sack.price(now.views[page]);
    sack.fill(now.views[page]);
    return what == ASK_AMOUNT ? sack.most() : sack.picked(what);
  }

  public int bound() {
    int sum = SIXTIETHS * now.bonds.sumAboveZero();
    draft.begin(-1, -1);
    for (int good = 0; good < now.goods.held; good++) sum += draft.mostOf(good, now.goods.held);
    return sum;
  }

  public int steps(int what) {
    if (!within(what, ASK_COUNT, now.goods.held - 1)) return BOTH + BAD;
    if (!stepsKnown.known) {
      drawPlan();
      if (draft.firstBroken() != NONE || draft.firstCrowded() != NONE) return BOTH + NOT;
      int count = search.climb();
      stepsKnown.keep(draft.row, search.amount, count);
    }
    return stepsKnown.tell(what);
  }

  public int more(int seen) {
    if (!within(seen, 0, MOST_SEEN)) return BOTH + BAD;
    if (now.pages >= MOST_PAGES) return BOTH + FULL;
    return findBest(seen, -1) - findBest(-1, -1);
  }

  public int less(int page) {
    if (!isPage(page)) return BOTH + BAD;
    return findBest(-1, page) - findBest(-1, -1);
  }

  public int through(int good) {
    if (!isGood(good)) return BOTH + BAD;
    if (now.choices[good] == 0) return BOTH + NONE;
    drawPlan();
    int others = draft.amount() - draft.share(good, 0);
    draft.put(good, 0);
    return others - draft.amount();
  }

  public int mended(int good, int what) {
    if (!isGood(good) || !within(what, ASK_COUNT, now.goods.held - 1)) return BOTH + BAD;
    if (mendedGood != good) {
      findMended(good);
      mendedGood = good;
    }
    return mendedKnown.tell(what);
  }

  public int year(int good, int size, int sold) {
    if (!isGood(good) || !within(size, 0, 1) || !within(sold, 0, MOST_SALE)) return BAD;
    return now.years.add(good, size, sold);
  }

  public int learnt(int good, int what) {
    if (!isGood(good) || !within(what, 0, 3)) return BAD;
    if (!now.years.tellOf(good)) return NOT;
    return now.years.lesson(good, what);
  }

  public int image() {
    kept.become(now);
    isKept = true;
    return 1;
  }

  public int restore() {
    if (!isKept) return NONE;
    now.become(kept);
    forgetSizes();
    return 1;
  }

  // ---- 4 sheets

  public int sheet(int sheet, int lane, int n) {
    return sheets.renew(sheet, lane, n);
  }

  public int drop(int sheet) {
    return sheets.clear(sheet);
  }

  public int item(int sheet, int lane, int i, int v) {
    int refusal = sheets.refusal(sheet, lane, i, 1);
    if (refusal != 0) return refusal;
    sheets.write(sheet, i, v);
    return 1;
  }

  // ---- what the calls share

  private static boolean within(int v, int least, int most) {
    return v >= least && v <= most;
  }

  private static int pageOf(int choice) {
    return (choice - 1) >> 1;
  }

  private static int sizeOf(int choice) {
    return (choice - 1) & 1;
  }

  private boolean isPage(int page) {
    return within(page, 0, now.pages - 1);
  }

  private boolean isGood(int good) {
    return within(good, 0, now.goods.held - 1);
  }

  private void forgetSizes() {
    floor.forget();
    forgetAnswers();
  }

  private void forgetAnswers() {
    bestKnown.known = false;
    forgetPlanAnswers();
  }

  private void forgetPlanAnswers() {
    stepsKnown.known = false;
    mendedGood = -1;
  }

  private void drawPlan() {
    draft.begin(-1, -1);
    draft.putAll(now.choices);
  }

  /** The WORTH of THE BEST PLAN with a page added that is seen so much, or one removed (-1: none). */
  private int findBest(int added, int removed) {
    boolean isOfNow = added < 0 && removed < 0;
    if (isOfNow && bestKnown.known) return bestKnown.amount;
    draft.begin(added, removed);
    search.climb();
    // What is worth less than the climb came to needs no look; but a plan as good may be ahead of it as a row.
    int above = search.amount - 1;
    draft.begin(added, removed);
    search.seek(above, -1, MOST_GOODS);
    if (isOfNow) bestKnown.keep(search.row, search.amount, 0);
    return search.amount;
  }

  private void findMended(int good) {
    draft.begin(-1, -1);
    System.arraycopy(now.choices, 0, search.like, 0, MOST_GOODS);
    for (int changes = 0; changes < MOST_GOODS; changes++) {
      if (!search.seek(BOTH, good, changes)) continue;
      mendedKnown.keep(search.row, search.amount, changes);
      return;
    }
  }

  /** GOODS, and their SIZES: size s of good g stands at 2 g + s. */
  private static final class Goods {
    int held;
    final int[] kind = new int[MOST_GOODS];
    final int[] family = new int[MOST_GOODS];
    final int[] wide = new int[2 * MOST_GOODS];
    final int[] high = new int[2 * MOST_GOODS];
    final int[] sale = new int[2 * MOST_GOODS];

    int add(int ofKind, int ofFamily) {
      if (held >= MOST_GOODS) return FULL;
      kind[held] = ofKind;
      family[held] = ofFamily;
      measure(held, 0, 1, 1, 0);
      measure(held, 1, 1, 1, 0);
      return held++;
    }

    void measure(int good, int size, int w, int h, int sold) {
      wide[2 * good + size] = w;
      high[2 * good + size] = h;
      sale[2 * good + size] = sold;
    }

    int area(int piece) {
      return wide[piece] * high[piece];
    }

    int fact(int good, int what) {
      switch (what) {
        case 0: return kind[good];
        case 1: return family[good];
        case 2: return wide[2 * good];
        case 3: return high[2 * good];
        case 4: return sale[2 * good];
        case 5: return wide[2 * good + 1];
        case 6: return high[2 * good + 1];
        default: return sale[2 * good + 1];
      }
    }

    void become(Goods other) {
      held = other.held;
      System.arraycopy(other.kind, 0, kind, 0, MOST_GOODS);
      System.arraycopy(other.family, 0, family, 0, MOST_GOODS);
      System.arraycopy(other.wide, 0, wide, 0, 2 * MOST_GOODS);
      System.arraycopy(other.high, 0, high, 0, 2 * MOST_GOODS);
      System.arraycopy(other.sale, 0, sale, 0, 2 * MOST_GOODS);
    }
  }

  /** BONDS between two GOODS. */
  private static final class Bonds {
    int held;
    final int[] kind = new int[MOST_BONDS];
    final int[] a = new int[MOST_BONDS];
    final int[] b = new int[MOST_BONDS];
    final int[] extra = new int[MOST_BONDS];

    int add(int ofKind, int from, int to, int brings) {
      if (held >= MOST_BONDS) return FULL;
      kind[held] = ofKind;
      a[held] = from;
      b[held] = to;
      extra[held] = brings;
      return held++;
    }

    int sumAboveZero() {
      int sum = 0;
      for (int i = 0; i < held; i++) sum += Math.max(extra[i], 0);
      return sum;
    }

    void become(Bonds other) {
      held = other.held;
      System.arraycopy(other.kind, 0, kind, 0, MOST_BONDS);
      System.arraycopy(other.a, 0, a, 0, MOST_BONDS);
      System.arraycopy(other.b, 0, b, 0, MOST_BONDS);
      System.arraycopy(other.extra, 0, extra, 0, MOST_BONDS);
    }
  }

  /** YEARS, and what they taught. */
  private static final class Years {
    private static final int FORMS = 3;
    /** How many times a SIZE 1 sells, by FORM. */
    private static final int[] TIMES = {1, 2, 4};

    int held;
    private final int[] good = new int[MOST_YEARS];
    private final int[] size = new int[MOST_YEARS];
    private final int[] sold = new int[MOST_YEARS];

    int add(int of, int had, int sales) {
      if (held >= MOST_YEARS) return FULL;
      good[held] = of;
      size[held] = had;
      sold[held] = sales;
      return held++;
    }

    boolean tellOf(int of) {
      for (int i = 0; i < held; i++) {
        if (good[i] == of) return true;
      }
      return false;
    }

    /** 0 the FORM, 1 its a, 2 the least sum of distances, 3 the other FORMS with that sum, as bits. */
    int lesson(int of, int what) {
      int form = 0;
      int at = leastAt(of, 0);
      int least = distance(of, 0, at);
      int alike = 0;
      for (int f = 1; f < FORMS; f++) {
        int otherAt = leastAt(of, f);
        int other = distance(of, f, otherAt);
        if (other == least) alike |= 1 << f;
        if (other >= least) continue;
        form = f;
        at = otherAt;
        least = other;
        alike = 0;
      }
      switch (what) {
        case 0: return form;
        case 1: return at;
        case 2: return least;
        default: return alike;
      }
    }

    /** The least a with the least distance: that bends but one way, so its first rise is found by halving. */
    private int leastAt(int of, int form) {
      int low = 0;
      int high = MOST_SALE;
      for (int halving = 0; halving < MOST_HALVINGS && low < high; halving++) {
        int middle = (low + high) / 2;
        if (distance(of, form, middle + 1) >= distance(of, form, middle)) high = middle;
        else low = middle + 1;
      }
      return low;
    }

    private int distance(int of, int form, int at) {
      int sum = 0;
      for (int i = 0; i < held; i++) {
        if (good[i] != of) continue;
        int due = size[i] == 0 ? at : TIMES[form] * at;
        sum += Math.abs(sold[i] - due);
      }
      return sum;
    }

    void become(Years other) {
      held = other.held;
      System.arraycopy(other.good, 0, good, 0, MOST_YEARS);
      System.arraycopy(other.size, 0, size, 0, MOST_YEARS);
      System.arraycopy(other.sold, 0, sold, 0, MOST_YEARS);
    }
  }

  /** All that an IMAGE keeps. */
  private static final class Book {
    int pages;
    final int[] views = new int[MOST_PAGES];
    final Goods goods = new Goods();
    final Bonds bonds = new Bonds();
    final Years years = new Years();
    /** LEADS, COST, POST. */
    final int[] settings = {5, 0, 0};
    /** THE PLAN; beyond the GOODS that there are all is 0, so that a new one is out. */
    final int[] choices = new int[MOST_GOODS];

    int addPage(int views60) {
      if (pages >= MOST_PAGES) return FULL;
      views[pages] = views60;
      return pages++;
    }

    boolean isChoice(int choice) {
      return within(choice, 0, 2 * pages);
    }

    int countIn() {
      int in = 0;
      for (int i = 0; i < goods.held; i++) {
        if (choices[i] != 0) in++;
      }
      return in;
    }

    void become(Book other) {
      pages = other.pages;
      System.arraycopy(other.views, 0, views, 0, MOST_PAGES);
      goods.become(other.goods);
      bonds.become(other.bonds);
      years.become(other.years);
      System.arraycopy(other.settings, 0, settings, 0, settings.length);
      System.arraycopy(other.choices, 0, choices, 0, MOST_GOODS);
    }
  }

  /** The SQUARES of a PAGE, and which GOODS FIT them; a code has a digit in threes for each GOOD. */
  private static final class Floor {
    private static final int UNKNOWN = 0, FIT = 1, UNFIT = 2;

    private final Goods goods;
    private final byte[] known = new byte[ALL_THREES];
    /** The squares that a piece (a SIZE of a GOOD) covers as bits, by piece and square; 0 where it is not within. */
    private final int[] spots = new int[2 * MOST_GOODS * SQUARES];
    /** How many squares a piece covers. */
    private final int[] areas = new int[2 * MOST_GOODS];
    /** The pieces of the code in hand, by GOOD. */
    private final int[] piece = new int[MOST_GOODS];
    private boolean isMeasured;

    Floor(Goods goods) {
      this.goods = goods;
    }

    void forget() {
      isMeasured = false;
    }

    /** Must come ahead of the questions below, if SIZES have changed. */
    void measureOnce() {
      if (isMeasured) return;
      Arrays.fill(known, (byte) UNKNOWN);
      for (int p = 0; p < 2 * goods.held; p++) {
        areas[p] = goods.area(p);
        for (int square = 0; square < SQUARES; square++) spots[p * SQUARES + square] = cover(p, square);
      }
      isMeasured = true;
    }

    private int cover(int p, int square) {
      if (square % SIDE + goods.wide[p] > SIDE || square / SIDE + goods.high[p] > SIDE) return 0;
      int line = (1 << goods.wide[p]) - 1;
      int bits = 0;
      for (int y = 0; y < goods.high[p]; y++) bits |= line << SIDE * y;
      return bits << square;
    }

    int spot(int p, int square) {
      return within(square, 0, SQUARES - 1) ? spots[p * SQUARES + square] : 0;
    }

    boolean lies(int code) {
      if (known[code] == UNKNOWN) {
        int all = pick(code);
        int left = larger(all);
        boolean isFit = areaOf(all) <= SQUARES && canLie(this, 0, left, 0, SQUARES - areaOf(left));
        known[code] = (byte) (isFit ? FIT : UNFIT);
      }
      return known[code] == FIT;
    }

    /** Puts THE LAYING of the code's GOODS into a row, if they FIT. */
    boolean lay(int code, int[] row) {
      if (!lies(code)) return false;
      int rest = pick(code);
      int taken = 0;
      for (int good = 0; good < MOST_GOODS; good++) {
        if ((rest >> good & 1) == 0) continue;
        rest &= ~(1 << good);
        row[good] = firstSquare(good, taken, larger(rest));
        taken |= spots[piece[good] * SQUARES + row[good]];
      }
      return true;
    }

    private int firstSquare(int good, int taken, int left) {
      for (int square = 0; square < SQUARES; square++) {
        int spot = spots[piece[good] * SQUARES + square];
        if (spot == 0 || (spot & taken) != 0) continue;
        int spare = SQUARES - Integer.bitCount(taken | spot) - areaOf(left);
        if (canLie(this, taken | spot, left, 0, spare)) return square;
      }
      return 0;
    }

    /**
     * Whether the GOODS left can lie on squares not taken: the first free one from a square on is either
     * the corner of one of them or is left empty, as so many may be.
     */
    private static boolean canLie(Floor floor, int taken, int left, int from, int spare) {
      if (left == 0) return true;
      int square = from;
      while (square < SQUARES && (taken >> square & 1) != 0) square++;
      if (square >= SQUARES) return false;
      for (int good = 0; good < MOST_GOODS; good++) {
        if ((left >> good & 1) == 0) continue;
        int spot = floor.spots[floor.piece[good] * SQUARES + square];
        if (spot == 0 || (spot & taken) != 0) continue;
        if (canLie(floor, taken | spot, left & ~(1 << good), square + 1, spare)) return true;
      }
      return spare > 0 && canLie(floor, taken, left, square + 1, spare - 1);
    }

    /** Takes the pieces of a code in hand: its GOODS as bits. */
    private int pick(int code) {
      int all = 0;
      int rest = code;
      for (int good = 0; good < MOST_GOODS; good++) {
        int digit = rest % 3;
        rest /= 3;
        if (digit == 0) continue;
        piece[good] = 2 * good + digit - 1;
        all |= 1 << good;
      }
      return all;
    }

    /** Those of several squares: one of a single square needs no trying, it lies wherever the others leave room. */
    private int larger(int all) {
      int left = all;
      for (int good = 0; good < MOST_GOODS; good++) {
        if ((all >> good & 1) != 0 && areas[piece[good]] == 1) left &= ~(1 << good);
      }
      return left;
    }

    private int areaOf(int all) {
      int sum = 0;
      for (int good = 0; good < MOST_GOODS; good++) {
        if ((all >> good & 1) != 0) sum += areas[piece[good]];
      }
      return sum;
    }
  }

  /** A PLAN as it is drawn up, and what it comes to; GOODS that are open yet are out. */
  private static final class Draft {
    private static final int OUT = -1;

    private final Book book;
    private final Floor floor;
    int pages;
    final int[] views = new int[MOST_PAGES];
    final int[] row = new int[MOST_GOODS];
    /** By GOOD that is in: its page, and what a PLAIN one would bring in its place. */
    private final int[] pageAt = new int[MOST_GOODS];
    private final int[] plain = new int[MOST_GOODS];
    /** By page: how many GOODS, how many squares they have, which they are (in threes). */
    final int[] crowd = new int[MOST_PAGES];
    private final int[] filled = new int[MOST_PAGES];
    final int[] code = new int[MOST_PAGES];
    /** RIVALS that are in, by FAMILY. */
    private final int[] rivals = new int[4];
    /** The most squares that GOODS from one on can have. */
    private final int[] openArea = new int[MOST_GOODS + 1];

    Draft(Book book, Floor floor) {
      this.book = book;
      this.floor = floor;
    }

    /** All out, on the book's pages, with one added that is seen so much, or one removed (-1: none). */
    void begin(int added, int removed) {
      pages = 0;
      for (int page = 0; page < book.pages; page++) {
        if (page != removed) views[pages++] = book.views[page];
      }
      if (added >= 0 && pages < MOST_PAGES) views[pages++] = added;
      Arrays.fill(row, 0);
      Arrays.fill(pageAt, OUT);
      Arrays.fill(crowd, 0);
      Arrays.fill(filled, 0);
      Arrays.fill(code, 0);
      Arrays.fill(rivals, 0);
      floor.measureOnce();
      measureOpen();
    }

    private void measureOpen() {
      openArea[book.goods.held] = 0;
      for (int good = book.goods.held - 1; good >= 0; good--) {
        int larger = Math.max(book.goods.area(2 * good), book.goods.area(2 * good + 1));
        openArea[good] = openArea[good + 1] + larger;
      }
    }

    int goods() {
      return book.goods.held;
    }

    void putAll(int[] choices) {
      for (int good = 0; good < book.goods.held; good++) put(good, choices[good]);
    }

    void put(int good, int choice) {
      if (row[good] != 0) mark(good, row[good], -1);
      row[good] = choice;
      pageAt[good] = OUT;
      if (choice == 0) return;
      mark(good, choice, 1);
      pageAt[good] = pageOf(choice);
      plain[good] = book.goods.sale[2 * good + sizeOf(choice)] * views[pageAt[good]];
    }

    private void mark(int good, int choice, int sign) {
      int page = pageOf(choice);
      int size = sizeOf(choice);
      crowd[page] += sign;
      filled[page] += sign * book.goods.area(2 * good + size);
      code[page] += sign * THREES[good] * (size + 1);
      if (book.goods.kind[good] == RIVAL) rivals[book.goods.family[good]] += sign;
    }

    int amount() {
      int sum = brought(book.goods.held);
      for (int bond = 0; bond < book.bonds.held; bond++) sum += gain(bond);
      return sum;
    }

    /** What the GOODS that are decided BRING less all costs; with some open, the most that it may become. */
    int brought(int decided) {
      int sum = 0;
      for (int good = 0; good < decided; good++) {
        if (row[good] != 0) sum += share(good, book.goods.held - decided);
      }
      int used = 0;
      for (int page = 0; page < pages; page++) {
        if (crowd[page] > 0) used++;
      }
      return sum - SIXTIETHS * (used * book.settings[COST] + (used + 1) / 2 * book.settings[POST]);
    }

    /** What a GOOD that is in BRINGS; with some GOODS open, the most that it may become. */
    int share(int good, int open) {
      int page = pageAt[good];
      switch (book.goods.kind[good]) {
        case LEAD:
          return plain[good] + book.settings[LEADS] * views[page] * (crowd[page] - 1 + open);
        case RIVAL:
          int sharers = rivals[book.goods.family[good]];
          return sharers > 1 ? plain[good] / sharers : plain[good];
        case FILLER:
          boolean isFull = filled[page] <= SQUARES && filled[page] + openArea[book.goods.held - open] >= SQUARES;
          return isFull ? 2 * plain[good] : plain[good];
        default:
          return plain[good];
      }
    }

    /** The most that GOODS can bring that are open, from one on. */
    int hope(int from) {
      int sum = 0;
      for (int good = from; good < book.goods.held; good++) sum += mostOf(good, book.goods.held - from);
      return sum;
    }

    /** The most that a GOOD can bring that is open, one of so many. */
    int mostOf(int good, int open) {
      int kind = book.goods.kind[good];
      int times = kind == FILLER ? 2 : 1;
      int by = kind == RIVAL ? Math.max(1 + rivals[book.goods.family[good]], 1) : 1;
      int leads = kind == LEAD ? book.settings[LEADS] : 0;
      int most = 0;
      for (int page = 0; page < pages; page++) {
        for (int piece = 2 * good; piece <= 2 * good + 1; piece++) {
          if (filled[page] + book.goods.area(piece) > SQUARES) continue;
          int led = leads * (crowd[page] + open - 1);
          most = Math.max(most, (times * book.goods.sale[piece] + led) * views[page] / by);
        }
      }
      return most;
    }

    /** What comes by the EXTRA of a BOND. */
    int gain(int bond) {
      int pageA = pageAt[book.bonds.a[bond]];
      int pageB = pageAt[book.bonds.b[bond]];
      if (pageA == OUT || pageB == OUT) return 0;
      int kind = book.bonds.kind[bond];
      if (kind == ON && pageA != pageB) return 0;
      if (kind == FACING && (Math.min(pageA, pageB) != 1 || Math.max(pageA, pageB) != 2)) return 0;
      return book.bonds.extra[bond] * Math.min(views[pageA], views[pageB]);
    }

    boolean keeps(int bond) {
      int pageA = pageAt[book.bonds.a[bond]];
      int pageB = pageAt[book.bonds.b[bond]];
      int kind = book.bonds.kind[bond];
      if (pageA == OUT) return true;
      if (pageB == OUT) return kind != NEEDS;
      if (kind == NEVER) return pageA != pageB;
      return kind != AHEAD || pageA < pageB;
    }

    boolean isFitAt(int good) {
      return row[good] == 0 || floor.lies(code[pageAt[good]]);
    }

    int firstBroken() {
      for (int bond = 0; bond < book.bonds.held; bond++) {
        if (!keeps(bond)) return bond;
      }
      return NONE;
    }

    int firstCrowded() {
      for (int page = 0; page < pages; page++) {
        if (!floor.lies(code[page])) return page;
      }
      return NONE;
    }

    boolean isAheadOf(int[] other) {
      for (int good = 0; good < book.goods.held; good++) {
        if (row[good] != other[good]) return row[good] < other[good];
      }
      return false;
    }
  }

  /** Searches for a better PLAN: by STEPS from a draft, or by going through all. */
  private static final class Search {
    /** Far above how many PLANS there are. */
    private static final int MOST_STEPS = 1000000;

    private final Draft draft;
    private final Bonds bonds;
    /** The PLAN whose CHOICES are counted as like. */
    final int[] like = new int[MOST_GOODS];
    /** What was found, and its WORTH; or the WORTH that it must be above. */
    final int[] row = new int[MOST_GOODS];
    int amount;
    private boolean isFound;
    private int banned;
    /** BONDS in the order of the later of both GOODS: those of a GOOD begin at tieFrom[good]. */
    private final int[] ties = new int[MOST_BONDS];
    private final int[] tieFrom = new int[MOST_GOODS + 1];
    /** The most that may come by BONDS whose later GOOD is this one or one behind it. */
    private final int[] openExtras = new int[MOST_GOODS + 1];

    Search(Draft draft, Bonds bonds) {
      this.draft = draft;
      this.bonds = bonds;
    }

    /** STEPS of the draft till none betters: how many. */
    int climb() {
      int goods = draft.goods();
      for (int count = 0; count < MOST_STEPS; count++) {
        isFound = false;
        amount = draft.amount();
        for (int good = 0; good < goods; good++) {
          tryChoices(good);
          tryRounds(good);
        }
        if (!isFound) return count;
        draft.putAll(row);
      }
      return MOST_STEPS;
    }

    private void tryChoices(int good) {
      int was = draft.row[good];
      for (int choice = 0; choice <= 2 * draft.pages; choice++) {
        if (choice == was) continue;
        draft.put(good, choice);
        weigh();
      }
      draft.put(good, was);
    }

    private void tryRounds(int good) {
      int was = draft.row[good];
      for (int other = good + 1; other < draft.goods(); other++) {
        int others = draft.row[other];
        if (others == was) continue;
        draft.put(good, others);
        draft.put(other, was);
        weigh();
        draft.put(other, others);
      }
      draft.put(good, was);
    }

    private void weigh() {
      int weight = draft.amount();
      if (weight < amount) return;
      if (weight == amount && !(isFound && draft.isAheadOf(row))) return;
      if (draft.firstBroken() == NONE && draft.firstCrowded() == NONE) keep(weight);
    }

    /**
     * Goes through the SOUND PLANS in their order as rows, past those that cannot be better: the first with the
     * greatest WORTH above one, in which a GOOD is out (-1: any), and so many others at most are unlike.
     */
    boolean seek(int above, int out, int changes) {
      amount = above;
      banned = out;
      isFound = false;
      sortBonds();
      decide(this, 0, changes, 0);
      return isFound;
    }

    private void sortBonds() {
      int sorted = 0;
      int extras = 0;
      for (int good = 0; good < draft.goods(); good++) {
        tieFrom[good] = sorted;
        for (int bond = 0; bond < bonds.held; bond++) {
          if (Math.max(bonds.a[bond], bonds.b[bond]) == good) ties[sorted++] = bond;
        }
      }
      tieFrom[draft.goods()] = sorted;
      openExtras[draft.goods()] = 0;
      for (int good = draft.goods() - 1; good >= 0; good--) {
        for (int i = tieFrom[good]; i < tieFrom[good + 1]; i++) extras += mostGain(ties[i]);
        openExtras[good] = extras;
      }
    }

    private int mostGain(int bond) {
      int seen = 0;
      if (bonds.kind[bond] != FACING) {
        for (int page = 0; page < draft.pages; page++) seen = Math.max(seen, draft.views[page]);
      } else if (draft.pages == MOST_PAGES) {
        seen = Math.min(draft.views[1], draft.views[2]);
      }
      return seen * Math.max(bonds.extra[bond], 0);
    }

    /** Tries all CHOICES of a GOOD, with those ahead of it decided, whose BONDS bring such EXTRAS. */
    private static void decide(Search search, int good, int changes, int extras) {
      Draft draft = search.draft;
      if (good >= draft.goods()) {
        search.keep(draft.brought(good) + extras);
        return;
      }
      boolean isBanned = good == search.banned;
      int last = isBanned ? 0 : 2 * draft.pages;
      for (int choice = 0; choice <= last; choice++) {
        int left = isBanned || choice == search.like[good] ? changes : changes - 1;
        if (left < 0) continue;
        draft.put(good, choice);
        if (!search.canStay(good)) continue;
        int sure = extras + search.gainOf(good);
        int most = draft.brought(good + 1) + draft.hope(good + 1) + sure + search.openExtras[good + 1];
        if (most > search.amount) decide(search, good + 1, left, sure);
      }
      draft.put(good, 0);
    }

    private boolean canStay(int good) {
      for (int i = tieFrom[good]; i < tieFrom[good + 1]; i++) {
        if (!draft.keeps(ties[i])) return false;
      }
      return draft.isFitAt(good);
    }

    private int gainOf(int good) {
      int sum = 0;
      for (int i = tieFrom[good]; i < tieFrom[good + 1]; i++) sum += draft.gain(ties[i]);
      return sum;
    }

    private void keep(int found) {
      isFound = true;
      amount = found;
      System.arraycopy(draft.row, 0, row, 0, MOST_GOODS);
    }
  }

  /** BY SQUARES: GOODS for a PAGE of which only squares are short. */
  private static final class Sack {
    private static final int ROOMS = SQUARES + 1;

    private final Goods goods;
    private int seen;
    /** The most from a GOOD on with so many squares left, by good and squares. */
    private final int[] most = new int[(MOST_GOODS + 1) * ROOMS];

    Sack(Goods goods) {
      this.goods = goods;
    }

    void fill(int views) {
      seen = views;
      Arrays.fill(most, 0);
      for (int good = goods.held - 1; good >= 0; good--) {
        for (int room = 0; room <= SQUARES; room++) {
          int best = 0;
          for (int digit = 0; digit <= 2; digit++) best = Math.max(best, with(good, room, digit));
          most[good * ROOMS + room] = best;
        }
      }
    }

    int most() {
      return most[SQUARES];
    }

    /** What the first row with the most has of a GOOD: each GOOD the least that still lets it be the most. */
    int picked(int of) {
      int room = SQUARES;
      for (int good = 0; good < goods.held; good++) {
        int digit = 0;
        while (digit < 2 && with(good, room, digit) != most[good * ROOMS + room]) digit++;
        if (good == of) return digit;
        if (digit > 0) room -= goods.area(2 * good + digit - 1);
      }
      return 0;
    }

    /** The most from a GOOD on, if it is of such a digit; -1 if there is no room. */
    private int with(int good, int room, int digit) {
      if (digit == 0) return most[(good + 1) * ROOMS + room];
      int piece = 2 * good + digit - 1;
      int left = room - goods.area(piece);
      if (left < 0) return -1;
      return goods.sale[piece] * seen + most[(good + 1) * ROOMS + left];
    }

    /** ITS PRICE, found by halving: a higher one never makes GOODS take more squares. */
    int price(int views) {
      seen = views;
      int low = 0;
      int high = MOST_SALE * MOST_SEEN;
      for (int halving = 0; halving < MOST_HALVINGS && low < high; halving++) {
        int middle = (low + high) / 2;
        if (taken(middle) <= SQUARES) high = middle;
        else low = middle + 1;
      }
      return low;
    }

    private int taken(int price) {
      int sum = 0;
      for (int good = 0; good < goods.held; good++) {
        int squares = 0;
        int gain = 0;
        for (int piece = 2 * good; piece <= 2 * good + 1; piece++) {
          int area = goods.area(piece);
          int value = goods.sale[piece] * seen - price * area;
          if (value < gain || value == gain && area >= squares) continue;
          gain = value;
          squares = area;
        }
        sum += squares;
      }
      return sum;
    }
  }

  /** A PLAN that was found. */
  private static final class Answer {
    boolean known;
    final int[] row = new int[MOST_GOODS];
    int amount;
    private int count;

    void keep(int[] found, int worth, int many) {
      System.arraycopy(found, 0, row, 0, MOST_GOODS);
      amount = worth;
      count = many;
      known = true;
    }

    int tell(int what) {
      if (what == ASK_COUNT) return count;
      return within(what, 0, MOST_GOODS - 1) ? row[what] : amount;
    }
  }

  /** THE TAPE, and how a BOOK is read from it. */
  private static final class Tape {
    private static final int ROOM = 120, FIRST_FAULT = -20, NOWHERE = -1;

    private final byte[] bytes = new byte[ROOM];
    private int length;
    private int at;
    private int fault = NOWHERE;

    int append(long w, int n) {
      if (!within(n, 1, 8)) return BAD;
      for (int i = 0; i < n; i++) {
        if (!within(byteOf(w, i), ' ', '~')) return BAD;
      }
      if (length + n > ROOM) return FULL;
      for (int i = n - 1; i >= 0; i--) bytes[length++] = (byte) byteOf(w, i);
      return length;
    }

    private static int byteOf(long w, int i) {
      return (int) (w >>> 8 * i) & 255;
    }

    void wipe() {
      length = 0;
      at = 0;
      fault = NOWHERE;
    }

    /** What comes goes into a book: how many CLAUSES, a FAULT, or FULL; if refused, the book is not to be used. */
    int read(Book book) {
      int clauses = 0;
      boolean hasRoom = true;
      boolean goesOn = true;
      while (goesOn && clauses < MOST_CLAUSES) {
        if (clause(book) == FULL) hasRoom = false;
        clauses++;
        goesOn = clauses < MOST_CLAUSES && fault == NOWHERE && look() >= 0;
        if (goesOn) skip(';');
      }
      if (look() >= 0) fail();
      if (fault != NOWHERE) return FIRST_FAULT - fault;
      return hasRoom ? clauses : FULL;
    }

    private int clause(Book book) {
      int next = look();
      if (next == 'p') return aPage(book);
      if (next == 'g') return aGood(book);
      return aBond(book);
    }

    private int aPage(Book book) {
      skip('p');
      int seen = number(MOST_SEEN);
      return fault == NOWHERE ? book.addPage(seen) : 0;
    }

    private int aGood(Book book) {
      skip('g');
      int kind = oneOf("plrf");
      int family = oneOf("0123");
      int number = fault == NOWHERE ? book.goods.add(kind, family) : 0;
      aSize(book, number, 0);
      skip(',');
      aSize(book, number, 1);
      return number;
    }

    private void aSize(Book book, int good, int size) {
      int wide = oneOf("1234") + 1;
      skip('x');
      int high = oneOf("1234") + 1;
      skip('=');
      int sale = number(MOST_SALE);
      if (fault == NOWHERE && good >= 0) book.goods.measure(good, size, wide, high, sale);
    }

    private int aBond(Book book) {
      int a = aLetter(book.goods.held, -1);
      int b = aLetter(book.goods.held, a);
      int kind = oneOf("ofenvh");
      int extra = 0;
      if (kind <= ANYWHERE) {
        int sign = oneOf("+-") == 0 ? 1 : -1;
        extra = sign * number(MOST_EXTRA);
      }
      return fault == NOWHERE ? book.bonds.add(kind, a, b, extra) : 0;
    }

    /** One of so many GOODS, but another one than was told. */
    private int aLetter(int goods, int told) {
      int good = look() - 'a';
      boolean isThere = within(good, 0, goods - 1) && good != told;
      if (isThere) at++;
      else fail();
      return isThere ? good : 0;
    }

    /** The next byte that counts, -1 at the end. */
    private int look() {
      while (at < length && bytes[at] == ' ') at++;
      return at < length ? bytes[at] : -1;
    }

    /** The next byte can't stand there. */
    private void fail() {
      look();
      failAt(at);
    }

    /** The first FAULT stays: what is read behind it has no meaning. */
    private void failAt(int place) {
      if (fault == NOWHERE) fault = place;
    }

    private void skip(char due) {
      if (look() == due) at++;
      else fail();
    }

    /** Which of some signs comes next, as its place among them. */
    private int oneOf(String signs) {
      int next = look();
      for (int i = 0; i < signs.length(); i++) {
        if (signs.charAt(i) != next) continue;
        at++;
        return i;
      }
      fail();
      return 0;
    }

    private int number(int most) {
      if (!isFigure(look())) {
        fail();
        return 0;
      }
      int first = at;
      int value = 0;
      while (at < length && isFigure(bytes[at])) {
        // Held down, so that a long row of figures can't wrap round.
        value = Math.min(10 * value + bytes[at] - '0', MOST_SALE + 1);
        at++;
      }
      if (value > most) failAt(first);
      return value;
    }

    private static boolean isFigure(int sign) {
      return within(sign, '0', '9');
    }
  }

  /** SHEETS: each nothing, or a row of a LANE. */
  private static final class Sheets {
    private static final int COUNT = 4, LANES = 3, ROOM = 16, NOTHING = -1;

    private final int[] laneOf = {NOTHING, NOTHING, NOTHING, NOTHING};
    private final int[] length = new int[COUNT];
    private final int[] items = new int[COUNT * ROOM];

    int renew(int sheet, int lane, int n) {
      if (!isNamed(sheet, lane) || n > ROOM) return BAD;
      if (n < 0) return SIZE;
      laneOf[sheet] = lane;
      length[sheet] = n;
      for (int i = 0; i < ROOM; i++) items[sheet * ROOM + i] = 0;
      return n;
    }

    int clear(int sheet) {
      if (!isNamed(sheet, 0)) return BAD;
      if (laneOf[sheet] == NOTHING) return NULL;
      laneOf[sheet] = NOTHING;
      return length[sheet];
    }

    /** Why n items from one on can't be had of a SHEET as a row of a LANE; 0 if they can. */
    int refusal(int sheet, int lane, int from, int n) {
      if (!isNamed(sheet, lane)) return BAD;
      if (laneOf[sheet] == NOTHING) return NULL;
      if (laneOf[sheet] != lane) return CAST;
      // Where no item is asked for, none can be missing.
      return n == 0 || within(from, 0, length[sheet] - n) ? 0 : INDEX;
    }

    int value(int sheet, int i) {
      return items[sheet * ROOM + i];
    }

    void write(int sheet, int i, int v) {
      int at = sheet * ROOM + i;
      switch (laneOf[sheet]) {
        case 0: items[at] = (byte) v; break;
        case 1: items[at] = (short) v; break;
        default: items[at] = v;
      }
    }

    private static boolean isNamed(int sheet, int lane) {
      return within(sheet, 0, COUNT - 1) && within(lane, 0, LANES - 1);
    }
  }
}
