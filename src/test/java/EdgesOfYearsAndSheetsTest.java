/** Promises 30 to 36, sentence by sentence: years, what they taught, images, sheets. */
public final class EdgesOfYearsAndSheetsTest extends Edges {
  public static void main(String[] args) {
    year();
    learnt();
    learntAlike();
    image();
    restore();
    sheet();
    drop();
    item();
    end();
  }

  private static void year() {
    says(30, "A YEAR: its number: YEARS 0 .. 11, as they come");
    GoodsBook x = of("gp01x1=1,1x1=1;gp01x1=1,1x1=1");
    for (int i = 0; i < 12; i++) due("year " + i, x.year(i % 2, i / 2 % 2, 83 * i), i);
    due("count(3)", x.count(3), 12);
    says(30, "BAD: of a GOOD: a SIZE it had, what it SOLD (0 .. 999)");
    range("year(v, 0, 9), three goods", FEW, (y, v) -> y.year(v, 0, 9), 0, 2, BAD);
    range("year(0, v, 9)", FEW, (y, v) -> y.year(0, v, 9), 0, 1, BAD);
    range("year(0, 1, v)", FEW, (y, v) -> y.year(0, 1, v), 0, 999, BAD);
    refused("year(0, 0, 9), no good", NEW, y -> y.year(0, 0, 9), BAD);
    says(30, "FULL: 12");
    refused("year(0, 0, 9), a thirteenth", ALL, y -> y.year(0, 0, 9), FULL);
    says(30, "of several the first that a call names: BAD, FULL");
    refused("year(6, 0, 9), a thirteenth", ALL, y -> y.year(6, 0, 9), BAD);
    refused("year(0, 2, 9), a thirteenth", ALL, y -> y.year(0, 2, 9), BAD);
    refused("year(0, 0, 1000), a thirteenth", ALL, y -> y.year(0, 0, 1000), BAD);
    says(30, "YEARS change no SALE");
    GoodsBook z = planned("p1;gp01x1=5,1x1=6", 1);
    z.year(0, 0, 999);
    due("told(0, 4)", z.told(0, 4), 5);
    due("worth()", z.worth(), 5);
  }

  /** Years are told as size, sold, size, sold .. of the second of two goods; the first has years of its own. */
  private static void dueLesson(String what, int[] years, int form, int a, int sum) {
    GoodsBook x = taught(years);
    due(what + ": the FORM", x.learnt(1, 0), form);
    due(what + ": a", x.learnt(1, 1), a);
    due(what + ": the sum of distances", x.learnt(1, 2), sum);
  }

  private static GoodsBook taught(int... years) {
    GoodsBook x = of("gp01x1=1,1x1=1;gp01x1=1,1x1=1");
    x.year(0, 0, 500);
    for (int i = 0; i < years.length; i += 2) x.year(1, years[i], years[i + 1]);
    x.year(0, 1, 700);
    return x;
  }

  private static void learnt() {
    says(31, "0 FLAT (both SIZES sell a), 1 DOUBLE (SIZE 0 a, SIZE 1 twice a), 2 STEEP (SIZE 1 four times a)");
    dueLesson("FLAT", new int[] {0, 7, 1, 7}, 0, 7, 0);
    dueLesson("DOUBLE", new int[] {0, 7, 1, 14}, 1, 7, 0);
    dueLesson("STEEP", new int[] {0, 7, 1, 28}, 2, 7, 0);
    says(31, "a (0 .. 999)");
    dueLesson("SOLD 0", new int[] {0, 0}, 0, 0, 0);
    dueLesson("SOLD 999", new int[] {0, 999}, 0, 999, 0);
    dueLesson("both 999", new int[] {0, 999, 1, 999}, 0, 999, 0);
    dueLesson("SIZE 1 alone, 999", new int[] {1, 999}, 0, 999, 0);
    dueLesson("STEEP, 249", new int[] {0, 249, 1, 996}, 2, 249, 0);
    dueLesson("DOUBLE, 499", new int[] {0, 499, 1, 998}, 1, 499, 0);
    says(31, "with the least sum of distances from what it SOLD");
    dueLesson("the middle of three", new int[] {0, 1, 0, 5, 0, 100}, 0, 5, 99);
    dueLesson("DOUBLE is nearer", new int[] {0, 10, 1, 19}, 1, 10, 1);
    dueLesson("STEEP is nearer", new int[] {0, 10, 1, 41, 1, 40}, 2, 10, 1);
    dueLesson("SIZE 1 has more weight", new int[] {0, 10, 1, 80}, 2, 20, 10);
    says(31, "of like ones the first FORM");
    dueLesson("SIZE 0 alone tells no FORM", new int[] {0, 7, 0, 9, 0, 9}, 0, 9, 2);
    dueLesson("SIZE 1 alone, 8", new int[] {1, 8}, 0, 8, 0);
    dueLesson("nothing SOLD", new int[] {0, 0, 1, 0}, 0, 0, 0);
    // FLAT 3 - 4, DOUBLE 3 - 2; STEEP 3 - 1.
    dueLesson("FLAT ahead of DOUBLE", new int[] {0, 3, 1, 4}, 0, 3, 1);
    // DOUBLE 3 - 4, STEEP 3 - 2; FLAT 3 - 8.
    dueLesson("DOUBLE ahead of STEEP", new int[] {0, 3, 1, 8}, 1, 4, 1);
    dueLesson("STEEP is less than DOUBLE", new int[] {0, 7, 1, 21}, 2, 5, 3);
    says(31, "the least a");
    dueLesson("any from 3 to 9", new int[] {0, 9, 0, 3}, 0, 3, 6);
    dueLesson("any from 0 to 999", new int[] {0, 999, 0, 0}, 0, 0, 999);
    dueLesson("two and two", new int[] {0, 1, 0, 4, 0, 6, 0, 8}, 0, 4, 9);
    says(31, "NOT: no YEAR tells of it");
    GoodsBook x = of("gp01x1=1,1x1=1;gp01x1=1,1x1=1");
    for (int what = 0; what < 4; what++) due("no YEAR", x.learnt(0, what), NOT);
    x.year(1, 0, 5);
    for (int what = 0; what < 4; what++) due("a YEAR of another", x.learnt(0, what), NOT);
    due("the other", x.learnt(1, 1), 5);
    refused("learnt(2, 0)", FEW, y -> y.learnt(2, 0), NOT);
    says(31, "BAD");
    range("learnt(0, v)", FEW, (y, v) -> y.learnt(0, v), 0, 3, BAD);
    range("learnt(v, 0), three goods", FEW, (y, v) -> y.learnt(v, 0), 0, 2, BAD);
    range("learnt(v, 3), six goods", ALL, (y, v) -> y.learnt(v, 3), 0, 5, BAD);
    refused("learnt(0, 0), no good", NEW, y -> y.learnt(0, 0), BAD);
    says(31, "of several the first that a call names: BAD, NOT");
    refused("learnt(2, 4)", FEW, y -> y.learnt(2, 4), BAD);
    refused("learnt(2, -1)", FEW, y -> y.learnt(2, -1), BAD);
  }

  private static void learntAlike() {
    says(31, "ALIKE are FORMS that have that least, too (others than the one LEARNT), as bits");
    due("FLAT alone", taught(0, 7, 1, 7).learnt(1, 3), 0);
    due("DOUBLE alone", taught(0, 7, 1, 14).learnt(1, 3), 0);
    due("STEEP alone", taught(0, 7, 1, 28).learnt(1, 3), 0);
    due("all three, SIZE 0 alone", taught(0, 7).learnt(1, 3), 6);
    due("all three, nothing SOLD", taught(0, 0, 1, 0).learnt(1, 3), 6);
    due("SIZE 1 alone, 8", taught(1, 8).learnt(1, 3), 6);
    due("SIZE 1 alone, 6: four times a is not 6", taught(1, 6).learnt(1, 3), 2);
    due("SIZE 1 alone, 7", taught(1, 7).learnt(1, 3), 0);
    due("FLAT and DOUBLE", taught(0, 3, 1, 4).learnt(1, 3), 2);
    due("DOUBLE and STEEP", taught(0, 3, 1, 8).learnt(1, 3), 4);
    due("FLAT and DOUBLE, but STEEP is less", taught(0, 0, 0, 0, 1, 4).learnt(1, 3), 0);
  }

  private static void image() {
    says(32, "All but SHEETS, THE TAPE is kept as an IMAGE: 1.");
    due("of a new object", new GoodsBook().image(), 1);
    due("of a full one", ALL.make().image(), 1);
    due("again", ALL.make().image(), 1);
    GoodsBook x = new GoodsBook();
    x.image();
    due("of nothing: as new", look(x), lookOfNewWithImage());
    says(32, "the IMAGE is of that time, the last one counts");
    GoodsBook y = of("p1;gp01x1=1,1x1=1");
    y.image();
    add(y, "p2;p3");
    y.image();
    y.seen(0, 60);
    y.size(0, 0, 4, 4, 9);
    y.choose(0, 1);
    due("restore()", y.restore(), 1);
    due("count(0)", y.count(0), 3);
    due("seen(0)", y.seen(0, 0), 1);
    due("told(0, 2)", y.told(0, 2), 1);
    due("count(4)", y.count(4), 0);
    due("restore() again", y.restore(), 1);
    due("seen(0)", y.seen(0, 0), 1);
  }

  private static String lookOfNewWithImage() {
    String look = look(new GoodsBook());
    int at = look.indexOf("\n image -4");
    return look.substring(0, at) + "\n image 1" + look.substring(at + "\n image -4".length());
  }

  private static void restore() {
    says(33, "NONE: there is none");
    refused("restore()", NEW, GoodsBook::restore, NONE);
    refused("restore()", () -> planned("p5;gp01x1=1,1x1=1", 1), GoodsBook::restore, NONE);
    says(33, "All is as it was then: 1.");
    for (Maker of : new Maker[] {NEW, FEW, ALL}) {
      GoodsBook x = of.make();
      x.image();
      String look = withoutSheets(look(x));
      GoodsBook y = of.make();
      y.image();
      spoil(y);
      due("restore()", y.restore(), 1);
      due("all", withoutSheets(look(y)), look);
    }
    says(33, "All but SHEETS, THE TAPE");
    GoodsBook x = of("p5;gp01x1=1,1x1=1");
    fill(x, 0, 0, 1, 1);
    type(x, "p");
    x.image();
    x.sheet(0, 2, 3);
    x.sheet(1, 1, 4);
    type(x, "7");
    due("restore()", x.restore(), 1);
    due("SHEET 0", x.drop(0), 3);
    due("SHEET 1", x.drop(1), 4);
    due("THE TAPE", x.book(), 1);
    due("THE TAPE's PAGE", x.seen(1, 0), 7);
    GoodsBook dropped = new GoodsBook();
    dropped.sheet(2, 0, 5);
    dropped.image();
    dropped.drop(2);
    dropped.restore();
    due("a SHEET that was dropped", dropped.drop(2), NULL);
    says(33, "what came behind the IMAGE is gone, and there is room again");
    GoodsBook y = new GoodsBook();
    y.image();
    for (int time = 0; time < 2; time++) {
      for (int i = 0; i < 3; i++) due("page", y.page(9), i);
      for (int i = 0; i < 6; i++) due("good", y.good(0, 0), i);
      for (int i = 0; i < 12; i++) due("bond", y.bond(0, 0, 1, 1), i);
      for (int i = 0; i < 12; i++) due("year", y.year(0, 0, 1), i);
      due("restore()", y.restore(), 1);
      for (int what = 0; what < 5; what++) due("count(" + what + ")", y.count(what), 0);
      due("best(-1)", y.best(-1), 0);
      due("best(0)", y.best(0), LESS + BAD);
    }
  }

  /** The sheets and the tape are not part of an IMAGE, so what is told of them is left away. */
  private static String withoutSheets(String look) {
    return look.replaceAll("\n (sheet|tape)[^\n]*", "");
  }

  private static void spoil(GoodsBook x) {
    x.page(1);
    x.seen(0, 59);
    x.good(1, 1);
    x.size(0, 0, 3, 2, 77);
    x.size(1, 1, 2, 3, 78);
    x.year(0, 0, 555);
    x.choose(0, 2);
    x.choose(1, 0);
    x.bond(2, 0, 1, 50);
    x.extra(0, -50);
    for (int what = 0; what < 3; what++) x.set(what, 44);
    x.take();
    x.steps(-1);
    x.mended(0, -1);
  }

  private static void sheet() {
    says(34, "A SHEET holds a new row of a LANE: n.");
    for (int sheet = 0; sheet < 4; sheet++) {
      for (int lane = 0; lane < 3; lane++) {
        GoodsBook x = new GoodsBook();
        due("16 items", x.sheet(sheet, lane, 16), 16);
        due("the last is there", x.item(sheet, lane, 15, 1), 1);
        due("no item behind it", x.item(sheet, lane, 16, 1), INDEX);
        due("0 items", x.sheet(sheet, lane, 0), 0);
        due("none is there", x.item(sheet, lane, 0, 1), INDEX);
        due("it is there", x.drop(sheet), 0);
      }
    }
    GoodsBook x = of("p1;gp01x1=1,1x1=1");
    fill(x, 1, 2, 2, 2, 2);
    x.sheet(1, 2, 3);
    for (int i = 0; i < 3; i++) {
      due("a new row is of 0", x.plan(1, 2, i), 0);
    }
    x.sheet(1, 0, 3);
    due("of another LANE", x.plan(1, 2, 0), CAST);
    due("of this LANE", x.plan(1, 0, 0), 0);
    says(34, "BAD: also n above 16");
    range("sheet(v, 1, 5)", FEW, (y, v) -> y.sheet(v, 1, 5), 0, 3, BAD);
    range("sheet(2, v, 5)", FEW, (y, v) -> y.sheet(2, v, 5), 0, 2, BAD);
    for (int n : new int[] {17, 18, 256, 65536, MOST}) refused("sheet(2, 2, " + n + ")", FEW, y -> y.sheet(2, 2, n), BAD);
    says(34, "SIZE: n below 0");
    for (int n : new int[] {-1, -2, -16, -256, LEAST, LEAST + 1, LEAST + 16}) {
      refused("sheet(2, 2, " + n + ")", FEW, y -> y.sheet(2, 2, n), SIZE);
      refused("sheet(3, 0, " + n + ")", FEW, y -> y.sheet(3, 0, n), SIZE);
    }
    says(34, "of several the first that a call names: BAD, SIZE");
    refused("sheet(4, 0, -1)", FEW, y -> y.sheet(4, 0, -1), BAD);
    refused("sheet(-1, 0, -1)", FEW, y -> y.sheet(-1, 0, -1), BAD);
    refused("sheet(0, 3, -1)", FEW, y -> y.sheet(0, 3, -1), BAD);
    refused("sheet(0, -1, LEAST)", FEW, y -> y.sheet(0, -1, LEAST), BAD);
  }

  private static void drop() {
    says(35, "A SHEET holds nothing: how many items it had.");
    for (int n : new int[] {0, 1, 15, 16}) {
      for (int sheet = 0; sheet < 4; sheet++) {
        GoodsBook x = new GoodsBook();
        for (int other = 0; other < 4; other++) x.sheet(other, 1, other == sheet ? n : 7);
        due("drop(" + sheet + ")", x.drop(sheet), n);
        due("drop(" + sheet + ") again", x.drop(sheet), NULL);
        due("item of it", x.item(sheet, 1, 0, 0), NULL);
        due("another one stays", x.drop((sheet + 1) % 4), 7);
      }
    }
    says(35, "BAD");
    range("drop(v)", Edges::allInts, (x, v) -> x.drop(v), 0, 3, BAD);
    says(35, "NULL");
    refused("drop(3)", FEW, x -> x.drop(3), NULL);
    for (int sheet = 0; sheet < 4; sheet++) {
      int s = sheet;
      refused("drop(" + s + ")", NEW, x -> x.drop(s), NULL);
    }
  }

  /** What an item holds, as far as it is a CHOICE of three pages; NOT else. */
  private static int held(int lane, int v) {
    GoodsBook x = of("p1;p1;p1;gp01x1=1,1x1=1");
    fill(x, 0, lane, 0, v, 0);
    return x.plan(0, lane, 1) == NOT ? NOT : x.choose(0, 0);
  }

  private static void item() {
    says(36, "Item i of a SHEET, taken as a row of a LANE, becomes v: 1.");
    for (int lane = 0; lane < 3; lane++) {
      GoodsBook x = of("p1;p1;p1;gp01x1=1,1x1=1");
      x.sheet(2, lane, 16);
      for (int i = 0; i < 16; i++) due("item(2, " + lane + ", " + i + ", ..)", x.item(2, lane, i, i % 7), 1);
      for (int i = 0; i < 16; i++) {
        x.plan(2, lane, i);
        due("item " + i, x.choose(0, 0), i % 7);
      }
    }
    says(36, "its lowest bits (with its sign)");
    int[] values = {6, 0x106, 0x10006, -250, -256 + 6, -65536 + 6, LEAST + 6, 0x86, 0x8006, 255, -1, LEAST, MOST};
    int[][] due = {
      {6, 6, 6, 6, 6, 6, 6, NOT, 6, NOT, NOT, 0, NOT},
      {6, NOT, 6, NOT, NOT, 6, 6, NOT, NOT, NOT, NOT, 0, NOT},
      {6, NOT, NOT, NOT, NOT, NOT, NOT, NOT, NOT, NOT, NOT, NOT, NOT}};
    for (int lane = 0; lane < 3; lane++) {
      for (int i = 0; i < values.length; i++) due("lane " + lane + " holds of " + values[i], held(lane, values[i]), due[lane][i]);
    }
    // By judge the sign is seen: what is below 0 or above 15 is not within.
    GoodsBook j = planned("p1;gp01x1=1,1x1=1", 1);
    int[] signs = {127, 128, 255, 256, 271, 272, -241, -240, -256};
    int[] within = {0, 0, 0, NONE, NONE, 0, NONE, 0, NONE};
    for (int i = 0; i < signs.length; i++) {
      fill(j, 0, 0, signs[i]);
      due("a byte of " + signs[i], j.judge(0, 0, 0, 0), within[i]);
    }
    itemRefusals();
  }

  private static void itemRefusals() {
    says(36, "BAD: SHEETS 0 .. 3, LANES 0 .. 2");
    range("item(v, 2, 0, 1)", Edges::allInts, (x, v) -> x.item(v, 2, 0, 1), 0, 3, BAD);
    range("item(2, v, 0, 1)", FEW, (x, v) -> x.item(2, v, 0, 1), 0, 2, BAD);
    says(36, "NULL; CAST");
    for (int lane = 0; lane < 3; lane++) {
      int l = lane;
      refused("item(3, " + l + ", 0, 1)", FEW, x -> x.item(3, l, 0, 1), NULL);
      for (int sheet = 0; sheet < 3; sheet++) {
        int s = sheet;
        if (s != l) refused("item(" + s + ", " + l + ", 0, 1)", FEW, x -> x.item(s, l, 0, 1), CAST);
      }
    }
    says(36, "INDEX");
    range("item(2, 2, v, 4), 9 items", FEW, (x, v) -> x.item(2, 2, v, 4), 0, 8, INDEX);
    range("item(0, 0, v, 4), 16 items", ALL, (x, v) -> x.item(0, 0, v, 4), 0, 15, INDEX);
    range("item(1, 1, v, 3), 3 items", FEW, (x, v) -> x.item(1, 1, v, 3), 0, 2, INDEX);
    says(36, "of several the first that a call names: BAD, NULL, CAST, INDEX");
    refused("item(4, 0, -1, 1): BAD", FEW, x -> x.item(4, 0, -1, 1), BAD);
    refused("item(3, 3, -1, 1): BAD ahead of NULL", FEW, x -> x.item(3, 3, -1, 1), BAD);
    refused("item(0, 3, 99, 1): BAD ahead of CAST", FEW, x -> x.item(0, 3, 99, 1), BAD);
    refused("item(3, 0, -1, 1): NULL ahead of INDEX", FEW, x -> x.item(3, 0, -1, 1), NULL);
    refused("item(0, 1, -1, 1): CAST ahead of INDEX", FEW, x -> x.item(0, 1, -1, 1), CAST);
    refused("item(0, 1, MOST, 1): CAST ahead of INDEX", FEW, x -> x.item(0, 1, MOST, 1), CAST);
  }
}
