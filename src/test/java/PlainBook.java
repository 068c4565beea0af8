import java.util.ArrayList;
import java.util.Arrays;
import java.util.List;

/**
 * The document once more, as plainly as can be: every plan is looked at, nothing is kept from call to call.
 * RandomRunsTest holds GoodsBook against it.
 */
final class PlainBook {
  static final int BAD = -1, NOT = -2, FULL = -3, NONE = -4, NULL = -11, CAST = -12, INDEX = -13, SIZE = -14;
  static final int LESS = 1000000000;

  static final class Good {
    int kind, family;
    int[] wide = {1, 1}, high = {1, 1}, sale = {0, 0};

    Good copy() {
      Good g = new Good();
      g.kind = kind;
      g.family = family;
      g.wide = wide.clone();
      g.high = high.clone();
      g.sale = sale.clone();
      return g;
    }
  }

  static final class State {
    List<Integer> pages = new ArrayList<>();
    List<Good> goods = new ArrayList<>();
    List<int[]> bonds = new ArrayList<>();
    List<int[]> years = new ArrayList<>();
    List<Integer> plan = new ArrayList<>();
    int[] settings = {5, 0, 0};

    State copy() {
      State s = new State();
      s.pages.addAll(pages);
      for (Good g : goods) s.goods.add(g.copy());
      for (int[] b : bonds) s.bonds.add(b.clone());
      for (int[] y : years) s.years.add(y.clone());
      s.plan.addAll(plan);
      s.settings = settings.clone();
      return s;
    }
  }

  private State s = new State();
  private State kept;
  private StringBuilder tape = new StringBuilder();
  private final int[][] sheets = new int[4][];
  private final int[] lanes = new int[4];

  private static boolean in(int v, int lo, int hi) {
    return lo <= v && v <= hi;
  }

  private boolean isGood(int g) {
    return in(g, 0, s.goods.size() - 1);
  }

  private boolean isPage(int p) {
    return in(p, 0, s.pages.size() - 1);
  }

  int page(int seen) {
    if (!in(seen, 0, 60)) return BAD;
    if (s.pages.size() == 3) return FULL;
    s.pages.add(seen);
    return s.pages.size() - 1;
  }

  int seen(int page, int v) {
    if (!isPage(page) || !in(v, 0, 60)) return BAD;
    return s.pages.set(page, v);
  }

  int good(int kind, int family) {
    if (!in(kind, 0, 3) || !in(family, 0, 3)) return BAD;
    if (s.goods.size() == 6) return FULL;
    Good g = new Good();
    g.kind = kind;
    g.family = family;
    s.goods.add(g);
    s.plan.add(0);
    return s.goods.size() - 1;
  }

  int size(int good, int size, int wide, int high, int sale) {
    if (!isGood(good) || !in(size, 0, 1) || !in(wide, 1, 4) || !in(high, 1, 4) || !in(sale, 0, 999)) return BAD;
    Good g = s.goods.get(good);
    int was = g.sale[size];
    g.wide[size] = wide;
    g.high[size] = high;
    g.sale[size] = sale;
    return was;
  }

  int told(int good, int what) {
    if (!isGood(good) || !in(what, 0, 7)) return BAD;
    Good g = s.goods.get(good);
    int[] all = {g.kind, g.family, g.wide[0], g.high[0], g.sale[0], g.wide[1], g.high[1], g.sale[1]};
    return all[what];
  }

  int bond(int kind, int a, int b, int extra) {
    if (!in(kind, 0, 5) || !isGood(a) || !isGood(b) || a == b) return BAD;
    if (kind < 3 ? !in(extra, -99, 99) : extra != 0) return BAD;
    if (s.bonds.size() == 12) return FULL;
    s.bonds.add(new int[] {kind, a, b, extra});
    return s.bonds.size() - 1;
  }

  int extra(int bond, int v) {
    if (!in(bond, 0, s.bonds.size() - 1) || !in(v, -99, 99)) return BAD - LESS;
    int[] b = s.bonds.get(bond);
    if (b[0] >= 3) return CAST - LESS;
    int was = b[3];
    b[3] = v;
    return was;
  }

  int set(int what, int v) {
    if (!in(what, 0, 2) || !in(v, 0, what == 0 ? 99 : 999)) return BAD;
    int was = s.settings[what];
    s.settings[what] = v;
    return was;
  }

  int type(long w, int n) {
    if (!in(n, 1, 8)) return BAD;
    StringBuilder more = new StringBuilder();
    for (int i = n - 1; i >= 0; i--) {
      int b = (int) ((w >> (8 * i)) & 0xff);
      if (b < 32 || b > 126) return BAD;
      more.append((char) b);
    }
    if (tape.length() + n > 120) return FULL;
    tape.append(more);
    return tape.length();
  }

  // ---- the text

  private static final class Fault extends Exception {
    private static final long serialVersionUID = 1;
    final int place;

    Fault(int place) {
      this.place = place;
    }
  }

  private String text;
  private int at;

  private char next() {
    while (at < text.length() && text.charAt(at) == ' ') at++;
    return at == text.length() ? 0 : text.charAt(at);
  }

  private int sign(String of) throws Fault {
    char c = next();
    if (c == 0 || of.indexOf(c) < 0) throw new Fault(at);
    at++;
    return of.indexOf(c);
  }

  private int number(int most) throws Fault {
    char c = next();
    if (c < '0' || c > '9') throw new Fault(at);
    int end = at;
    while (end < text.length() && Character.isDigit(text.charAt(end))) end++;
    java.math.BigInteger v = new java.math.BigInteger(text.substring(at, end));
    if (v.compareTo(java.math.BigInteger.valueOf(most)) > 0) throw new Fault(at);
    at = end;
    return v.intValue();
  }

  int book() {
    text = tape.toString();
    tape = new StringBuilder();
    at = 0;
    State was = s;
    s = s.copy();
    try {
      int clauses = 0;
      int wantPages = s.pages.size(), wantGoods = s.goods.size(), wantBonds = s.bonds.size();
      do {
        if (clauses > 0) sign(clauses == 12 ? "" : ";");
        clauses++;
        char c = next();
        if (c == 'p') {
          at++;
          page(number(60));
          wantPages++;
        } else if (c == 'g') {
          at++;
          int kind = sign("plrf"), family = sign("0123");
          int g = good(kind, family);
          wantGoods++;
          for (int z = 0; z < 2; z++) {
            if (z == 1) sign(",");
            int wide = sign("1234") + 1;
            sign("x");
            int high = sign("1234") + 1;
            sign("=");
            size(g, z, wide, high, number(999));
          }
        } else {
          String letters = "abcdef".substring(0, s.goods.size());
          int a = sign(letters);
          String others = letters.substring(0, a) + letters.substring(a + 1);
          int b = letters.indexOf(others.charAt(sign(others)));
          int kind = sign("ofenvh");
          int extra = 0;
          if (kind < 3) extra = (sign("+-") == 0 ? 1 : -1) * number(99);
          bond(kind, a, b, extra);
          wantBonds++;
        }
      } while (next() != 0);
      if (wantPages > 3 || wantGoods > 6 || wantBonds > 12) {
        s = was;
        return FULL;
      }
      return clauses;
    } catch (Fault f) {
      s = was;
      return -20 - f.place;
    }
  }

  int count(int what) {
    if (!in(what, 0, 4)) return BAD;
    int inPlan = 0;
    for (int c : s.plan) inPlan += c == 0 ? 0 : 1;
    return new int[] {s.pages.size(), s.goods.size(), s.bonds.size(), s.years.size(), inPlan}[what];
  }

  // ---- plans

  int choose(int good, int choice) {
    if (!isGood(good) || !in(choice, 0, 2 * s.pages.size())) return BAD;
    return s.plan.set(good, choice);
  }

  private int refusal(int sheet, int lane) {
    if (!in(sheet, 0, 3) || !in(lane, 0, 2)) return BAD;
    if (sheets[sheet] == null) return NULL;
    return lanes[sheet] == lane ? 0 : CAST;
  }

  private boolean hasItem(int sheet, long i) {
    return i >= 0 && i < sheets[sheet].length;
  }

  int plan(int sheet, int lane, int from) {
    int refusal = refusal(sheet, lane);
    if (refusal != 0) return refusal;
    for (int i = 0; i < s.goods.size(); i++) if (!hasItem(sheet, (long) from + i)) return INDEX;
    for (int i = 0; i < s.goods.size(); i++) if (!in(sheets[sheet][from + i], 0, 2 * s.pages.size())) return NOT;
    for (int i = 0; i < s.goods.size(); i++) s.plan.set(i, sheets[sheet][from + i]);
    return count(4);
  }

  private static int pageOf(int choice) {
    return choice == 0 ? -1 : (choice - 1) / 2;
  }

  private int squaresOn(int page, int[] plan) {
    int sum = 0;
    for (int g = 0; g < plan.length; g++) {
      if (pageOf(plan[g]) != page) continue;
      Good good = s.goods.get(g);
      int z = (plan[g] - 1) % 2;
      sum += good.wide[z] * good.high[z];
    }
    return sum;
  }

  private int brought(int g, int[] plan) {
    Good good = s.goods.get(g);
    int page = pageOf(plan[g]);
    int seen = s.pages.get(page);
    int plain = good.sale[(plan[g] - 1) % 2] * seen;
    if (good.kind == 0) return plain;
    if (good.kind == 1) {
      int others = 0;
      for (int h = 0; h < plan.length; h++) if (h != g && pageOf(plan[h]) == page) others++;
      return plain + s.settings[0] * seen * others;
    }
    if (good.kind == 2) {
      int by = 1;
      for (int h = 0; h < plan.length; h++) {
        Good other = s.goods.get(h);
        if (h != g && plan[h] != 0 && other.kind == 2 && other.family == good.family) by++;
      }
      return plain / by;
    }
    return squaresOn(page, plan) == 16 ? 2 * plain : plain;
  }

  private int worthOf(int[] plan) {
    int sum = 0;
    for (int g = 0; g < plan.length; g++) if (plan[g] != 0) sum += brought(g, plan);
    for (int[] b : s.bonds) {
      int pa = pageOf(plan[b[1]]), pb = pageOf(plan[b[2]]);
      if (pa < 0 || pb < 0) continue;
      boolean counts = b[0] == 0 && pa == pb || b[0] == 1 && (pa == 1 && pb == 2 || pa == 2 && pb == 1) || b[0] == 2;
      if (counts) sum += b[3] * Math.min(s.pages.get(pa), s.pages.get(pb));
    }
    boolean[] used = new boolean[3];
    for (int c : plan) if (c != 0) used[pageOf(c)] = true;
    int n = 0;
    for (boolean u : used) if (u) n++;
    sum -= 60 * s.settings[1] * n;
    sum -= 60 * s.settings[2] * (n == 0 ? 0 : n <= 2 ? 1 : 2);
    return sum;
  }

  private int[] now() {
    int[] plan = new int[s.plan.size()];
    for (int i = 0; i < plan.length; i++) plan[i] = s.plan.get(i);
    return plan;
  }

  private boolean kept(int[] b, int[] plan) {
    int pa = pageOf(plan[b[1]]), pb = pageOf(plan[b[2]]);
    switch (b[0]) {
      case 3: return !(pa >= 0 && pb < 0);
      case 4: return !(pa >= 0 && pa == pb);
      case 5: return !(pa >= 0 && pb >= 0 && pa >= pb);
      default: return true;
    }
  }

  int brings(int good) {
    if (!isGood(good)) return BAD;
    return s.plan.get(good) == 0 ? NONE : brought(good, now());
  }

  int worth() {
    return worthOf(now());
  }

  /** The first laying as squares of the goods of a page, in their order; null if they do not fit. */
  private int[] laying(int page, int[] plan) {
    List<int[]> pieces = new ArrayList<>();
    for (int g = 0; g < plan.length; g++) {
      if (pageOf(plan[g]) != page) continue;
      int z = (plan[g] - 1) % 2;
      pieces.add(new int[] {s.goods.get(g).wide[z], s.goods.get(g).high[z]});
    }
    if (squaresOn(page, plan) > 16) return null;
    int[] at = new int[pieces.size()];
    return laid(pieces, 0, new boolean[16], at) ? at : null;
  }

  private static boolean free(int wide, int high, int square, boolean[] taken) {
    if (!in(square, 0, 15)) return false;
    int x = square % 4, y = square / 4;
    if (x + wide > 4 || y + high > 4) return false;
    for (int i = 0; i < wide; i++) for (int j = 0; j < high; j++) if (taken[4 * (y + j) + x + i]) return false;
    return true;
  }

  private static void cover(int wide, int high, int square, boolean[] taken, boolean v) {
    for (int i = 0; i < wide; i++) for (int j = 0; j < high; j++) taken[square + 4 * j + i] = v;
  }

  private static boolean laid(List<int[]> pieces, int k, boolean[] taken, int[] at) {
    if (k == pieces.size()) return true;
    int wide = pieces.get(k)[0], high = pieces.get(k)[1];
    for (int square = 0; square < 16; square++) {
      if (!free(wide, high, square, taken)) continue;
      cover(wide, high, square, taken, true);
      at[k] = square;
      if (laid(pieces, k + 1, taken, at)) return true;
      cover(wide, high, square, taken, false);
    }
    return false;
  }

  int breaks(int what) {
    if (!in(what, 0, 1)) return BAD;
    int[] plan = now();
    if (what == 0) {
      for (int i = 0; i < s.bonds.size(); i++) if (!kept(s.bonds.get(i), plan)) return i;
    } else {
      for (int p = 0; p < s.pages.size(); p++) if (laying(p, plan) == null) return p;
    }
    return NONE;
  }

  int square(int good) {
    if (!isGood(good)) return BAD;
    int[] plan = now();
    if (plan[good] == 0) return NOT;
    int[] at = laying(pageOf(plan[good]), plan);
    if (at == null) return NONE;
    int k = 0;
    for (int g = 0; g < good; g++) if (pageOf(plan[g]) == pageOf(plan[good])) k++;
    return at[k];
  }

  int judge(int page, int sheet, int lane, int from) {
    if (!isPage(page)) return BAD;
    int refusal = refusal(sheet, lane);
    if (refusal != 0) return refusal;
    int[] plan = now();
    int k = 0;
    for (int g = 0; g < plan.length; g++) if (pageOf(plan[g]) == page && !hasItem(sheet, (long) from + k++)) return INDEX;
    boolean[] taken = new boolean[16];
    k = 0;
    for (int g = 0; g < plan.length; g++) {
      if (pageOf(plan[g]) != page) continue;
      int z = (plan[g] - 1) % 2, wide = s.goods.get(g).wide[z], high = s.goods.get(g).high[z];
      int square = sheets[sheet][from + k++];
      if (!free(wide, high, square, taken)) return g;
      cover(wide, high, square, taken, true);
    }
    return NONE;
  }

  int fits(int sizes) {
    if (sizes < 0) return BAD;
    int[] plan = new int[s.goods.size()];
    int rest = sizes;
    for (int g = 0; g < plan.length; g++, rest /= 3) plan[g] = rest % 3;
    if (rest != 0) return BAD;
    return laying(0, plan) == null ? 0 : 1;
  }

  // ---- the best

  private java.util.HashMap<Integer, Boolean> fitting = new java.util.HashMap<>();

  private boolean fitsPage(int page, int[] plan) {
    int code = 0;
    for (int g = plan.length - 1; g >= 0; g--) code = 3 * code + (pageOf(plan[g]) == page ? (plan[g] - 1) % 2 + 1 : 0);
    Boolean known = fitting.get(code);
    if (known == null) fitting.put(code, known = laying(page, plan) != null);
    return known;
  }

  private boolean sound(int[] plan) {
    for (int[] b : s.bonds) if (!kept(b, plan)) return false;
    for (int p = 0; p < s.pages.size(); p++) if (!fitsPage(p, plan)) return false;
    return true;
  }

  private boolean next(int[] plan) {
    for (int g = plan.length - 1; g >= 0; g--) {
      if (plan[g] < 2 * s.pages.size()) {
        plan[g]++;
        return true;
      }
      plan[g] = 0;
    }
    return false;
  }

  private int[] bestPlan() {
    fitting.clear();
    int[] plan = new int[s.goods.size()], best = null;
    do {
      if (best != null && worthOf(plan) <= worthOf(best)) continue;
      if (sound(plan)) best = plan.clone();
    } while (next(plan));
    return best;
  }

  int best(int what) {
    if (!in(what, -1, s.goods.size() - 1)) return BAD - LESS;
    int[] best = bestPlan();
    return what == -1 ? worthOf(best) : best[what];
  }

  int take() {
    int[] best = bestPlan();
    for (int i = 0; i < best.length; i++) s.plan.set(i, best[i]);
    return worth();
  }

  int squares(int page, int what) {
    if (!isPage(page) || !in(what, -2, s.goods.size() - 1)) return BAD;
    int n = s.goods.size(), seen = s.pages.get(page);
    if (what == -2) {
      for (int price = 0; ; price++) {
        int all = 0;
        for (Good g : s.goods) {
          int bestGain = 0, bestSquares = 0;
          for (int z = 0; z < 2; z++) {
            int squares = g.wide[z] * g.high[z], gain = g.sale[z] * seen - price * squares;
            if (gain > bestGain || gain == bestGain && gain > 0 && squares < bestSquares) {
              bestGain = gain;
              bestSquares = squares;
            }
          }
          all += bestSquares;
        }
        if (all <= 16) return price;
      }
    }
    int[] row = new int[n], best = null;
    int most = -1;
    int all = (int) Math.round(Math.pow(3, n));
    for (int k = 0; k < all; k++) {
      int rest = k, sum = 0, squares = 0;
      for (int g = n - 1; g >= 0; g--, rest /= 3) {
        row[g] = rest % 3;
        if (row[g] == 0) continue;
        Good good = s.goods.get(g);
        sum += good.sale[row[g] - 1] * seen;
        squares += good.wide[row[g] - 1] * good.high[row[g] - 1];
      }
      if (squares <= 16 && sum > most) {
        most = sum;
        best = row.clone();
      }
    }
    return what == -1 ? most : best[what];
  }

  int bound() {
    int sum = 0;
    for (Good g : s.goods) {
      int most = 0;
      for (int seen : s.pages) {
        for (int sale : g.sale) {
          int could = sale * seen;
          if (g.kind == 1) could += s.settings[0] * seen * (s.goods.size() - 1);
          if (g.kind == 3) could += sale * seen;
          most = Math.max(most, could);
        }
      }
      sum += most;
    }
    for (int[] b : s.bonds) if (b[0] < 3 && b[3] > 0) sum += 60 * b[3];
    return sum;
  }

  int steps(int what) {
    if (!in(what, -2, s.goods.size() - 1)) return BAD - LESS;
    fitting.clear();
    int[] plan = now();
    if (!sound(plan)) return NOT - LESS;
    int count = 0;
    while (true) {
      List<int[]> ways = new ArrayList<>();
      for (int g = 0; g < plan.length; g++) {
        for (int c = 0; c <= 2 * s.pages.size(); c++) {
          int[] way = plan.clone();
          way[g] = c;
          ways.add(way);
        }
        for (int h = 0; h < g; h++) {
          int[] way = plan.clone();
          way[g] = plan[h];
          way[h] = plan[g];
          ways.add(way);
        }
      }
      int[] best = null;
      for (int[] way : ways) {
        if (worthOf(way) <= worthOf(plan) || !sound(way)) continue;
        int more = best == null ? 1 : Integer.compare(worthOf(way), worthOf(best));
        if (more > 0 || more == 0 && Arrays.compare(way, best) < 0) best = way;
      }
      if (best == null) break;
      plan = best;
      count++;
    }
    return what == -2 ? count : what == -1 ? worthOf(plan) : plan[what];
  }

  int more(int seen) {
    if (!in(seen, 0, 60)) return BAD - LESS;
    if (s.pages.size() == 3) return FULL - LESS;
    int was = worthOf(bestPlan());
    s.pages.add(seen);
    int is = worthOf(bestPlan());
    s.pages.remove(s.pages.size() - 1);
    return is - was;
  }

  int less(int page) {
    if (!isPage(page)) return BAD - LESS;
    int was = worthOf(bestPlan());
    int seen = s.pages.remove(page);
    int is = worthOf(bestPlan());
    s.pages.add(page, seen);
    return is - was;
  }

  int through(int good) {
    if (!isGood(good)) return BAD - LESS;
    if (s.plan.get(good) == 0) return NONE - LESS;
    int[] without = now();
    without[good] = 0;
    return worth() - worthOf(without) - brings(good);
  }

  int mended(int good, int what) {
    if (!isGood(good) || !in(what, -2, s.goods.size() - 1)) return BAD - LESS;
    fitting.clear();
    int[] plan = new int[s.goods.size()], best = null;
    int fewest = 0;
    do {
      if (plan[good] != 0) continue;
      int unlike = 0;
      for (int g = 0; g < plan.length; g++) if (g != good && plan[g] != s.plan.get(g)) unlike++;
      if (best != null && (unlike > fewest || unlike == fewest && worthOf(plan) <= worthOf(best))) continue;
      if (!sound(plan)) continue;
      best = plan.clone();
      fewest = unlike;
    } while (next(plan));
    return what == -2 ? fewest : what == -1 ? worthOf(best) : best[what];
  }

  int year(int good, int size, int sold) {
    if (!isGood(good) || !in(size, 0, 1) || !in(sold, 0, 999)) return BAD;
    if (s.years.size() == 12) return FULL;
    s.years.add(new int[] {good, size, sold});
    return s.years.size() - 1;
  }

  int learnt(int good, int what) {
    if (!isGood(good) || !in(what, 0, 3)) return BAD;
    int years = 0;
    for (int[] y : s.years) if (y[0] == good) years++;
    if (years == 0) return NOT;
    int[] times = {1, 2, 4}, least = {Integer.MAX_VALUE, Integer.MAX_VALUE, Integer.MAX_VALUE}, at = new int[3];
    for (int form = 0; form < 3; form++) {
      for (int a = 0; a <= 999; a++) {
        int sum = 0;
        for (int[] y : s.years) if (y[0] == good) sum += Math.abs(y[2] - (y[1] == 0 ? a : times[form] * a));
        if (sum < least[form]) {
          least[form] = sum;
          at[form] = a;
        }
      }
    }
    int form = 0;
    for (int f = 1; f < 3; f++) if (least[f] < least[form]) form = f;
    int alike = 0;
    for (int f = 0; f < 3; f++) if (f != form && least[f] == least[form]) alike |= 1 << f;
    return new int[] {form, at[form], least[form], alike}[what];
  }

  int image() {
    kept = s.copy();
    return 1;
  }

  int restore() {
    if (kept == null) return NONE;
    s = kept.copy();
    return 1;
  }

  // ---- sheets

  int sheet(int sheet, int lane, int n) {
    if (!in(sheet, 0, 3) || !in(lane, 0, 2) || n > 16) return BAD;
    if (n < 0) return SIZE;
    sheets[sheet] = new int[n];
    lanes[sheet] = lane;
    return n;
  }

  int drop(int sheet) {
    if (!in(sheet, 0, 3)) return BAD;
    if (sheets[sheet] == null) return NULL;
    int n = sheets[sheet].length;
    sheets[sheet] = null;
    return n;
  }

  int item(int sheet, int lane, int i, int v) {
    int refusal = refusal(sheet, lane);
    if (refusal != 0) return refusal;
    if (!hasItem(sheet, i)) return INDEX;
    sheets[sheet][i] = lane == 0 ? (byte) v : lane == 1 ? (short) v : v;
    return 1;
  }
}
