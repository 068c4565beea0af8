/** Each call that changes something: whatever was asked ahead of it, all that is asked behind it is as if it had not been. */
public final class EdgesOfChangesTest extends Edges {
  public static void main(String[] args) {
    tellings();
    plans();
    sheetsAndTape();
    images();
    lastCall();
    end();
  }

  /** The call is taken, changes something, and answers asked ahead of it do not stay. */
  private static void changes(String what, Maker of, Call call, int want) {
    GoodsBook x = of.make();
    due(what, call.on(x), want);
    String look = look(x);
    due(what + " changes something", look.equals(look(of.make())) ? 0 : 1, 1);
    GoodsBook asked = of.make();
    askAhead(asked);
    due(what + ", answers asked ahead", call.on(asked), want);
    due("all behind " + what + ", answers asked ahead", look(asked), look);
  }

  private static void tellings() {
    says(2, "page counts at once");
    changes("page(60)", FEW, x -> x.page(60), 2);
    says(3, "seen counts at once");
    changes("seen(0, 60)", FEW, x -> x.seen(0, 60), 10);
    changes("seen(1, 0)", FEW, x -> x.seen(1, 0), 20);
    changes("seen(2, 60)", ALL, x -> x.seen(2, 60), 20);
    says(4, "good counts at once");
    changes("good(1, 3)", FEW, x -> x.good(1, 3), 3);
    changes("good(0, 0)", () -> of("p1"), x -> x.good(0, 0), 0);
    says(5, "size counts at once");
    changes("size(1, 0, 1, 1, 999)", FEW, x -> x.size(1, 0, 1, 1, 999), 9);
    changes("size(0, 0, 4, 4, 30)", FEW, x -> x.size(0, 0, 4, 4, 30), 30);
    changes("size(5, 0, 1, 1, 99)", ALL, x -> x.size(5, 0, 1, 1, 99), 99);
    says(7, "bond counts at once");
    changes("bond(2, 1, 2, 99)", FEW, x -> x.bond(2, 1, 2, 99), 2);
    changes("bond(4, 0, 2, 0)", FEW, x -> x.bond(4, 0, 2, 0), 2);
    changes("bond(3, 0, 2, 0)", FEW, x -> x.bond(3, 0, 2, 0), 2);
    says(8, "extra counts at once");
    changes("extra(0, -99)", FEW, x -> x.extra(0, -99), 5);
    changes("extra(0, 99)", FEW, x -> x.extra(0, 99), 5);
    says(9, "set counts at once");
    changes("set(0, 99)", FEW, x -> x.set(0, 99), 7);
    changes("set(1, 999)", FEW, x -> x.set(1, 999), 2);
    changes("set(2, 999)", FEW, x -> x.set(2, 999), 3);
    says(11, "book counts at once");
    changes("book()", FEW, GoodsBook::book, 1);
    changes("book() of a GOOD and a BOND", FEW_READ, x -> read(x, "gp01x1=99,1x1=9;dbo+9"), 2);
    says(30, "year counts at once");
    changes("year(0, 1, 999)", FEW, x -> x.year(0, 1, 999), 2);
    changes("year(2, 0, 0)", FEW, x -> x.year(2, 0, 0), 2);
  }

  private static void plans() {
    says(13, "choose counts at once");
    changes("choose(0, 4)", FEW, x -> x.choose(0, 4), 1);
    changes("choose(0, 0)", FEW, x -> x.choose(0, 0), 1);
    changes("choose(2, 1)", FEW, x -> x.choose(2, 1), 0);
    changes("choose(5, 0)", ALL, x -> x.choose(5, 0), 6);
    says(14, "plan counts at once");
    changes("plan(2, 2, 2)", FEW, x -> x.plan(2, 2, 2), 3);
    changes("plan(1, 1, 0)", FEW, x -> x.plan(1, 1, 0), 2);
    changes("plan(0, 0, 7)", ALL, x -> x.plan(0, 0, 7), 6);
    says(22, "take counts at once");
    changes("take()", FEW, GoodsBook::take, FEW.make().best(-1));
    changes("take()", ALL, GoodsBook::take, ALL.make().best(-1));
  }

  private static void sheetsAndTape() {
    says(10, "type counts at once");
    changes("type(' ', 1)", FEW, x -> x.type(' ', 1), 3);
    says(34, "sheet counts at once");
    changes("sheet(0, 0, 5)", FEW, x -> x.sheet(0, 0, 5), 5);
    changes("sheet(0, 1, 5)", FEW, x -> x.sheet(0, 1, 5), 5);
    changes("sheet(3, 2, 0)", FEW, x -> x.sheet(3, 2, 0), 0);
    says(35, "drop counts at once");
    changes("drop(0)", FEW, x -> x.drop(0), 5);
    changes("drop(2)", ALL, x -> x.drop(2), 16);
    says(36, "item counts at once");
    changes("item(2, 2, 0, 4)", FEW, x -> x.item(2, 2, 0, 4), 1);
    changes("item(1, 1, 2, 0)", FEW, x -> x.item(1, 1, 2, 0), 1);
    changes("item(3, 2, 15, 6)", ALL, x -> x.item(3, 2, 15, 6), 1);
  }

  private static void images() {
    says(32, "image counts at once");
    changes("image()", FEW, GoodsBook::image, 1);
    says(33, "restore counts at once");
    changes("restore()", FEW, GoodsBook::restore, 1);
    changes("restore()", ALL, GoodsBook::restore, 1);
    says(33, "fewer GOODS behind restore: what was known of more does not stay");
    GoodsBook x = of("p1;gf02x2=5,1x1=1;gp01x1=4,1x1=1");
    x.image();
    add(x, "gp04x3=7,4x3=7;gp04x3=6,4x3=6;ade+50;cde+50");
    due("best(-1): 2 by 2 and 4 by 3 can't lie", x.best(-1), 1 + 4 + 6 + 50);
    due("squares(0, -1)", x.squares(0, -1), 12);
    x.restore();
    x.choose(0, 1);
    due("brings(0): 4 squares are not 16", x.brings(0), 5);
    due("best(-1)", x.best(-1), 9);
    due("squares(0, -1)", x.squares(0, -1), 9);
    due("squares(0, 1)", x.squares(0, 1), 1);
    due("bound()", x.bound(), 14);
    due("steps(-1)", x.steps(-1), 9);
    due("mended(0, -1)", x.mended(0, -1), 0);
  }

  private static void lastCall() {
    says(1, "An object is used for at most 512 calls: the last one answers, too");
    GoodsBook x = new GoodsBook();
    due("call 1", x.page(60), 0);
    due("call 2", x.good(0, 0), 0);
    for (int i = 3; i < 512; i++) due("call " + i, x.size(0, 0, 1, 1, i), i == 3 ? 0 : i - 1);
    due("call 512", x.best(-1), 511 * 60);
  }
}
