import java.util.HashMap;
import java.util.Map;

/** What the tests of edges share: sentences of the document, questions, books to begin with, refusals that change nothing. */
abstract class Edges {
  static final int BAD = -1, NOT = -2, FULL = -3, NONE = -4, NULL = -11, CAST = -12, INDEX = -13, SIZE = -14;
  static final int LESS = -1000000000;
  static final int LEAST = Integer.MIN_VALUE, MOST = Integer.MAX_VALUE;

  interface Maker {
    GoodsBook make();
  }

  interface Call {
    int on(GoodsBook x);
  }

  interface CallWith {
    int on(GoodsBook x, int v);
  }

  static final Maker NEW = GoodsBook::new;
  static final Maker FEW = Edges::few;
  static final Maker ALL = Edges::all;
  /** As those, with THE TAPE read, so that it is empty. */
  static final Maker FEW_READ = () -> withTapeRead(few());
  static final Maker ALL_READ = () -> withTapeRead(all());

  private static final Map<Maker, String> LOOKS = new HashMap<>();
  private static int wrong = 0;
  private static int asked = 0;
  private static int askedBefore = 0;
  private static int sentences = 0;
  private static String sentence = "";

  /** What is asked from here on holds the document to this sentence. */
  static void says(int promise, String words) {
    closeSentence();
    sentence = "promise " + promise + ", '" + words + "'";
    sentences++;
    askedBefore = asked;
  }

  private static void closeSentence() {
    if (sentence.isEmpty() || asked > askedBefore) return;
    wrong++;
    System.out.println(sentence + ": nothing was asked");
  }

  static void due(String what, int got, int want) {
    asked++;
    if (got == want) return;
    wrong++;
    System.out.println(sentence + ": " + what + " answered " + got + ", due is " + want);
  }

  static void due(String what, String got, String want) {
    asked++;
    if (got.equals(want)) return;
    wrong++;
    System.out.println(sentence + ": " + what + " is " + got + ", due is " + want);
  }

  static void end() {
    closeSentence();
    System.out.println(asked + " answers to " + sentences + " sentences, " + wrong + " wrong");
    if (wrong > 0) System.exit(1);
  }

  // ---- texts and plans

  static void type(GoodsBook x, String text) {
    for (int at = 0; at < text.length(); at += 8) {
      int end = Math.min(at + 8, text.length());
      long w = 0;
      for (int i = at; i < end; i++) w = w << 8 | text.charAt(i);
      x.type(w, end - at);
    }
  }

  static int read(GoodsBook x, String text) {
    type(x, text);
    return x.book();
  }

  /** A book by its text, that may be longer than THE TAPE: as many clauses at once as it takes. */
  static GoodsBook of(String text) {
    GoodsBook x = new GoodsBook();
    add(x, text);
    return x;
  }

  static void add(GoodsBook x, String text) {
    StringBuilder part = new StringBuilder();
    int clauses = 0;
    for (String clause : text.split(";")) {
      if (clauses == 12 || part.length() + clause.length() > 120) {
        addPart(x, part.toString(), clauses);
        part.setLength(0);
        clauses = 0;
      }
      part.append(clause).append(';');
      clauses++;
    }
    addPart(x, part.toString(), clauses);
  }

  private static void addPart(GoodsBook x, String part, int clauses) {
    int answer = read(x, part.substring(0, part.length() - 1));
    if (answer != clauses) due("book of '" + part + "'", answer, clauses);
  }

  static GoodsBook plan(GoodsBook x, int... choices) {
    for (int good = 0; good < choices.length; good++) x.choose(good, choices[good]);
    return x;
  }

  static GoodsBook planned(String text, int... choices) {
    return plan(of(text), choices);
  }

  static void fill(GoodsBook x, int sheet, int lane, int... items) {
    x.sheet(sheet, lane, items.length);
    for (int i = 0; i < items.length; i++) x.item(sheet, lane, i, items[i]);
  }

  static String row(GoodsBook x, CallWith of) {
    StringBuilder row = new StringBuilder();
    int goods = x.count(1);
    for (int good = 0; good < goods; good++) row.append(of.on(x, good));
    return row.toString();
  }

  // ---- books to begin with

  /** Some of everything, with room for more. */
  private static GoodsBook few() {
    GoodsBook x = of("p10;p20;gl12x1=30,2x2=50;gr01x1=9,3x3=40;gf04x2=25,1x1=7;abo+5");
    x.year(0, 0, 100);
    x.choose(0, 2);
    x.image();
    read(x, "can");
    x.year(1, 1, 50);
    x.set(0, 7);
    x.set(1, 2);
    x.set(2, 3);
    plan(x, 1, 3, 0);
    fill(x, 0, 0, 1, 2, 3, 4, 0);
    fill(x, 1, 1, 4, 0, 1);
    fill(x, 2, 2, 0, 1, 2, 3, 4, 3, 2, 1, 0);
    type(x, "p1");
    return x;
  }

  /** All room is taken: PAGES, GOODS, BONDS, YEARS, THE TAPE, SHEETS. */
  private static GoodsBook all() {
    GoodsBook x = of("p60;p30;p20;gp02x1=40,2x2=70;gl11x1=10,3x2=60;gr02x2=50,4x4=200;gr01x2=30,4x2=90");
    add(x, "gf31x1=5,4x1=30;gp14x4=99,1x1=1");
    for (int i = 0; i < 6; i++) x.year(i, i & 1, 100 * i);
    x.image();
    for (int i = 0; i < 6; i++) x.year(i, 1, 99 * i);
    add(x, "abo+20;abf-5;cde+7;cdv;aeh;bao-99;bcf+99;efo+1;eff-1;efe+2");
    x.bond(3, 5, 4, 0);
    x.bond(5, 0, 5, 0);
    plan(x, 1, 2, 3, 5, 5, 6);
    fill(x, 0, 0, 1, 2, 3, 4, 5, 6, 0, 1, 2, 3, 4, 5, 6, 0, 1, 2);
    x.sheet(1, 1, 16);
    x.sheet(2, 2, 16);
    x.sheet(3, 2, 16);
    for (int i = 0; i < 3; i++) {
      x.item(1, 1, 5 * i, 6 - i);
      x.item(2, 2, 4 * i, 1 + i);
    }
    type(x, " ".repeat(120));
    return x;
  }

  /** Some of everything, and four SHEETS of ints. */
  static GoodsBook allInts() {
    GoodsBook x = few();
    for (int sheet = 0; sheet < 4; sheet++) x.sheet(sheet, 2, 4 + sheet);
    return x;
  }

  /** All room taken, and a PLAN that is SOUND. */
  static GoodsBook allSound() {
    GoodsBook x = all();
    x.take();
    return x;
  }

  private static GoodsBook withTapeRead(GoodsBook x) {
    x.book();
    return x;
  }

  // ---- refusals

  /** A call is refused so, and all is as if it had not been, whether answers were asked for ahead of it or not. */
  static void refused(String what, Maker of, Call call, int want) {
    String look = LOOKS.computeIfAbsent(of, m -> look(m.make()));
    GoodsBook x = of.make();
    due(what, call.on(x), want);
    due("all behind the refused " + what, look(x), look);
    GoodsBook asked = of.make();
    askAhead(asked);
    due(what + ", answers asked ahead", call.on(asked), want);
    due("all behind the refused " + what + ", answers asked ahead", look(asked), look);
  }

  /** A number of a call is taken from the least to the most, and refused beside them, far off, and where it wraps round. */
  static void range(String what, Maker of, CallWith call, int least, int most, int refusal) {
    int[] tries = {least - 1, most + 1, LEAST, MOST, LEAST + least, least + 256, most + 65536, most - 256};
    for (int v : tries) {
      if (v >= least && v <= most) continue;
      refused(what.replace("v", "" + v), of, x -> call.on(x, v), refusal);
    }
    for (int v : new int[] {least, most}) {
      int got = call.on(of.make(), v);
      due(what.replace("v", "" + v) + " is taken, it answered " + got, got == refusal ? 0 : 1, 1);
    }
  }

  /** What an object may remember of its answers. */
  static void askAhead(GoodsBook x) {
    x.steps(-1);
    x.mended(0, -1);
    x.best(-1);
    x.fits(8);
    x.fits(26);
    x.squares(0, -1);
    x.learnt(0, 0);
    x.less(0);
  }

  // ---- all that can be seen of an object (it is spent then), in some 300 calls

  static String look(GoodsBook x) {
    StringBuilder s = new StringBuilder();
    // The answers first: to look at the book, numbers are changed and put back, and that makes an object forget.
    lookAtAnswers(x, s);
    lookAtBook(x, s);
    lookAtSheets(x, s);
    s.append("\n tape ").append(x.type(' ', 1)).append(' ').append(x.book());
    s.append("\n image ").append(x.restore());
    lookAtBook(x, s);
    return s.toString();
  }

  private static void lookAtBook(GoodsBook x, StringBuilder s) {
    int pages = x.count(0), goods = x.count(1), bonds = x.count(2);
    s.append("\n counts ").append(pages).append(' ').append(goods).append(' ').append(bonds);
    s.append(' ').append(x.count(3)).append(' ').append(x.count(4));
    for (int p = 0; p < pages; p++) {
      int was = x.seen(p, 0);
      x.seen(p, was);
      s.append(" p").append(was);
    }
    for (int g = 0; g < goods; g++) {
      int was = x.choose(g, 0);
      x.choose(g, was);
      s.append("\n good ").append(g).append(" choice ").append(was).append(':');
      for (int what = 0; what < 8; what++) s.append(' ').append(x.told(g, what));
    }
    s.append("\n bonds");
    for (int b = 0; b < bonds; b++) {
      int was = x.extra(b, 0);
      if (was > LESS + 100) x.extra(b, was);
      s.append(' ').append(was);
    }
    s.append("\n set");
    for (int what = 0; what < 3; what++) {
      int was = x.set(what, 0);
      x.set(what, was);
      s.append(' ').append(was);
    }
  }

  private static void lookAtAnswers(GoodsBook x, StringBuilder s) {
    int pages = x.count(0), goods = x.count(1);
    s.append("\n worth ").append(x.worth()).append(' ').append(x.breaks(0)).append(' ').append(x.breaks(1)).append(' ').append(x.bound());
    for (int g = 0; g < goods; g++) {
      s.append("\n good ").append(g).append(": ").append(x.brings(g)).append(' ').append(x.square(g)).append(' ').append(x.through(g));
      for (int what = 1; what < 4; what++) s.append(' ').append(x.learnt(g, what));
      s.append(' ').append(x.best(g)).append(' ').append(x.steps(g));
      for (int what = -2; what < 0; what++) s.append(' ').append(x.mended(g, what));
    }
    s.append("\n best ").append(x.best(-1)).append(" steps ").append(x.steps(-1)).append(' ').append(x.steps(-2));
    for (int p = 0; p < pages; p++) {
      s.append("\n page ").append(p).append(' ').append(x.less(p));
      for (int what = -2; what < 0; what++) s.append(' ').append(x.squares(p, what));
    }
    s.append("\n more ").append(x.more(30)).append(" fits ").append(x.fits(8)).append(x.fits(26)).append(x.fits(364));
  }

  private static void lookAtSheets(GoodsBook x, StringBuilder s) {
    for (int sheet = 0; sheet < 4; sheet++) {
      s.append("\n sheet ").append(sheet);
      for (int lane = 0; lane < 3; lane++) {
        int far = x.item(sheet, lane, 16, 0);
        s.append(' ').append(far);
        if (far == INDEX && x.count(1) > 0) lookAtItems(x, sheet, lane, s);
      }
      s.append(" length ").append(x.drop(sheet));
    }
  }

  /** Items that are CHOICES are seen by THE PLAN that they make; the last ones from further ahead. */
  private static void lookAtItems(GoodsBook x, int sheet, int lane, StringBuilder s) {
    int goods = x.count(1);
    int from = 0;
    int answer = x.plan(sheet, lane, from);
    while (answer != INDEX && from < 16) {
      s.append(' ').append(answer).append(':').append(row(x, (y, g) -> y.choose(g, 0)));
      from += goods;
      answer = x.plan(sheet, lane, from);
    }
    for (int back = 1; back < goods && answer == INDEX; back++) answer = x.plan(sheet, lane, from - back);
    s.append(' ').append(answer).append(':').append(row(x, (y, g) -> y.choose(g, 0)));
  }
}
