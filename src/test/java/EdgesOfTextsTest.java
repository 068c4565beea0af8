/** Promise 11, sentence by sentence: where each byte of a BOOK may stand, its numbers' ends, FAULTS and their places, room. */
public final class EdgesOfTextsTest extends Edges {
  private static final String DIGITS = "0123456789";
  private static final String G = "gp01x1=1,1x1=1";

  public static void main(String[] args) {
    tape();
    clauses();
    pages();
    goods();
    bonds();
    numbers();
    blanks();
    places();
    room();
    comes();
    end();
  }

  /** The text's FAULT stands behind the mark ^, and nothing comes. */
  private static void fault(Maker of, String marked) {
    int place = marked.indexOf('^');
    String text = marked.replace("^", "");
    refused("book of '" + text + "'", of, x -> read(x, text), -20 - place);
  }

  private static void taken(Maker of, String text, int clauses) {
    due("book of '" + text + "'", read(of.make(), text), clauses);
  }

  /** Behind the text these bytes may come next, and a blank; every other byte is a FAULT just there. */
  private static void next(Maker of, String text, String may) {
    for (char c = 33; c <= 126; c++) {
      int there = -20 - text.length();
      int answer = read(of.make(), text + c);
      if (may.indexOf(c) < 0) due("book of '" + text + c + "'", answer, there);
      else due("book of '" + text + c + "' has no FAULT at its end", answer == there ? 1 : 0, 0);
    }
    due("the blank itself is no FAULT", read(of.make(), text + " ") == -20 - text.length() ? 1 : 0, 0);
  }

  private static String times(String clause, int n) {
    return (clause + ";").repeat(n).substring(0, (clause.length() + 1) * n - 1);
  }

  private static void tape() {
    says(11, "THE TAPE, which is empty then (whatever is answered)");
    String[] texts = {"p5", "p61", "", "p1;p1;p1;p1", "q"};
    int[] answers = {1, -21, -20, FULL, -20};
    for (int i = 0; i < texts.length; i++) {
      GoodsBook x = new GoodsBook();
      due("book of '" + texts[i] + "'", read(x, texts[i]), answers[i]);
      due("book() again", x.book(), -20);
      due("type behind it", x.type(' ', 1), 1);
    }
    refused("book() of an empty tape", FEW_READ, GoodsBook::book, -20);
    refused("book() of an empty tape", NEW, GoodsBook::book, -20);
  }

  private static void clauses() {
    says(11, "1 to 12 CLAUSES with ; between");
    fault(NEW, "^");
    fault(NEW, "^;");
    fault(NEW, "^;p1");
    fault(NEW, "p1;^");
    fault(NEW, "p1;^;p1");
    fault(NEW, "p1^,p1");
    fault(NEW, "p1^p1");
    for (int n = 1; n <= 3; n++) taken(NEW, times("p7", n), n);
    for (int n = 1; n <= 10; n++) taken(FEW_READ, times("abn", n), n);
    taken(NEW, G + ";" + G + ";" + times("abn", 10), 12);
    fault(NEW, G + ";" + G + ";" + times("abn", 10) + "^;");
    fault(NEW, G + ";" + G + ";" + times("abn", 10) + "^;abn");
    fault(NEW, G + ";" + G + ";" + times("abn", 10) + "^;q");
    fault(NEW, times("p1", 12) + "^;p1");
    refused("twelve, not all have room", NEW, x -> read(x, times("p1", 12)), FULL);
    next(FEW_READ, times("abn", 11), ";");
    next(FEW_READ, times("abn", 11) + ";", "pgabc");
    next(FEW_READ, times("abn", 12), "");
    next(NEW, "", "pg");
    next(FEW_READ, "", "pgabc");
    next(ALL_READ, "", "pgabcdef");
    next(FEW_READ, "p5;", "pgabc");
  }

  private static void pages() {
    says(11, "p and a number (0 .. 60): a PAGE");
    next(NEW, "p", DIGITS);
    next(NEW, "p5", DIGITS + ";");
    for (int seen : new int[] {0, 1, 59, 60}) {
      GoodsBook x = new GoodsBook();
      due("book of p" + seen, read(x, "p" + seen), 1);
      due("count(0)", x.count(0), 1);
      due("seen", x.seen(0, 9), seen);
    }
    fault(NEW, "p^61");
    fault(NEW, "p^-1");
    fault(NEW, "p^+1");
    fault(NEW, "p^;p1");
    fault(NEW, "^P1");
  }

  private static void goods() {
    says(11, "g, a KIND (p l r f), a FAMILY (0 .. 3), a SIZE, a comma, a SIZE: a GOOD");
    next(NEW, "g", "plrf");
    for (char kind : "plrf".toCharArray()) next(NEW, "g" + kind, "0123");
    String kinds = "plrf";
    for (int kind = 0; kind < 4; kind++) {
      for (int family = 0; family < 4; family++) {
        GoodsBook x = new GoodsBook();
        due("book", read(x, "g" + kinds.charAt(kind) + family + "1x1=0,1x1=0"), 1);
        due("KIND", x.told(0, 0), kind);
        due("FAMILY", x.told(0, 1), family);
      }
    }
    next(NEW, "gp01x1=5", DIGITS + ",");
    next(NEW, "gp01x1=5,1x1=5", DIGITS + ";");
    says(11, "(A FAMILY is one figure, as a digit is)");
    fault(NEW, "gp0^01x1=1,1x1=1");
    fault(NEW, "gp0^0");
    fault(NEW, "gp01^1x1=1,1x1=1");
    fault(NEW, "gp01x1^1=1,1x1=1");
    fault(NEW, "gp0^0x1=1,1x1=1");
    says(11, "a SIZE (a digit 1 .. 4, x, a digit 1 .. 4, =, a number 0 .. 999)");
    for (String ahead : new String[] {"gp0", "gp01x1=5,"}) {
      next(NEW, ahead, "1234");
      next(NEW, ahead + "1", "x");
      next(NEW, ahead + "4", "x");
      next(NEW, ahead + "1x", "1234");
      next(NEW, ahead + "4x", "1234");
      next(NEW, ahead + "1x1", "=");
      next(NEW, ahead + "4x4", "=");
      next(NEW, ahead + "1x1=", DIGITS);
    }
    int[] ends = {1, 4};
    for (int w : ends) {
      for (int h : ends) {
        GoodsBook x = new GoodsBook();
        due("book", read(x, "gp0" + w + "x" + h + "=999," + h + "x" + w + "=0"), 1);
        int[] told = {0, 0, w, h, 999, h, w, 0};
        for (int what = 0; what < 8; what++) due("told(0, " + what + ")", x.told(0, what), told[what]);
      }
    }
    fault(NEW, "gp01x1=^1000,1x1=1");
    fault(NEW, "gp01x1=1,1x1=^1000");
    fault(NEW, "gp01x1=^-1,1x1=1");
    fault(NEW, "gp01x1=^,1x1=1");
    fault(NEW, "gp01x1=1^;1x1=1");
    fault(NEW, "gp01x1=1^;gp01x1=1,1x1=1");
    fault(NEW, "gp01x1=1,1x1=1^,1x1=1");
  }

  private static void bonds() {
    says(11, "a GOOD (a .. f), a GOOD (another one; that there are behind CLAUSES ahead)");
    fault(NEW, "^abn");
    fault(NEW, "^abn;" + G + ";" + G);
    fault(NEW, "p1;^abn");
    fault(NEW, G + ";a^an");
    fault(NEW, G + ";a^bn");
    fault(NEW, G + ";^ban");
    fault(NEW, G + ";a^bn;" + G);
    fault(NEW, G + ";" + G + ";a^an");
    fault(NEW, G + ";" + G + ";b^bn");
    fault(NEW, G + ";" + G + ";a^cn");
    fault(NEW, G + ";" + G + ";^can");
    taken(NEW, G + ";" + G + ";abn;ban", 4);
    taken(NEW, G + ";" + G + ";abn;" + G + ";can;bcn", 6);
    next(FEW_READ, "a", "bc");
    next(FEW_READ, "b", "ac");
    next(FEW_READ, "c", "ab");
    next(ALL_READ, "a", "bcdef");
    next(ALL_READ, "f", "abcde");
    String six = times(G, 6);
    taken(NEW, six + ";fan", 7);
    fault(NEW, six + ";a^gn");
    fault(NEW, six + ";g^an");
    says(11, "a KIND (o f e: ON, FACING, ANYWHERE) and + or - and a number (0 .. 99), or n, v, h (NEEDS, NEVER, AHEAD): a BOND");
    next(FEW_READ, "ab", "ofenvh");
    for (String with : new String[] {"o", "f", "e"}) {
      next(FEW_READ, "ab" + with, "+-");
      next(FEW_READ, "ab" + with + "+", DIGITS);
      next(FEW_READ, "ab" + with + "-", DIGITS);
      next(FEW_READ, "ab" + with + "-9", DIGITS + ";");
      fault(FEW_READ, "ab" + with + "+^100");
      fault(FEW_READ, "ab" + with + "-^100");
      fault(FEW_READ, "ab" + with + "^5");
      fault(FEW_READ, "ab" + with + "+^-5");
      for (int extra : new int[] {-99, -1, 0, 1, 99}) {
        GoodsBook x = FEW_READ.make();
        due("book", read(x, "bc" + with + (extra < 0 ? "" : "+") + extra), 1);
        due("its EXTRA", x.extra(2, 0), extra);
      }
      GoodsBook x = FEW_READ.make();
      due("book of -0", read(x, "bc" + with + "-0"), 1);
      due("its EXTRA", x.extra(2, 1), 0);
    }
    for (String without : new String[] {"n", "v", "h"}) {
      next(FEW_READ, "ab" + without, ";");
      fault(FEW_READ, "ab" + without + "^+1");
      fault(FEW_READ, "ab" + without + "^0");
      GoodsBook x = FEW_READ.make();
      due("book", read(x, "ab" + without), 1);
      due("it has no EXTRA", x.extra(2, 0), LESS + CAST);
    }
    says(11, "the KINDS are those of the calls");
    String kinds = "ofenvh";
    for (int kind = 0; kind < 6; kind++) {
      GoodsBook x = of("p9;p8;p7;gp01x1=0,1x1=0;gp01x1=0,1x1=0");
      GoodsBook y = of("p9;p8;p7;gp01x1=0,1x1=0;gp01x1=0,1x1=0");
      due("book", read(x, "ab" + kinds.charAt(kind) + (kind < 3 ? "+3" : "")), 1);
      due("bond", y.bond(kind, 0, 1, kind < 3 ? 3 : 0), 0);
      for (int a = 0; a <= 6; a++) {
        for (int b = 0; b <= 6; b++) {
          plan(x, a, b);
          plan(y, a, b);
          due("worth() of " + a + b, x.worth(), y.worth());
          due("breaks(0) of " + a + b, x.breaks(0), y.breaks(0));
        }
      }
    }
  }

  private static void numbers() {
    says(11, "numbers are figures, zeros ahead, too");
    String[] fine = {"0", "00", "60", "060", "0000000000000000000000060", "0".repeat(117) + "60", "0".repeat(119)};
    int[] seen = {0, 0, 60, 60, 60, 60, 0};
    for (int i = 0; i < fine.length; i++) {
      GoodsBook x = new GoodsBook();
      due("book of p" + fine[i], read(x, "p" + fine[i]), 1);
      due("seen", x.seen(0, 1), seen[i]);
    }
    GoodsBook x = of("p5;gp01x1=000000000000999,1x1=0000;gp01x1=0,1x1=0;abo+000099;abe-00000000000099");
    due("SALE", x.told(0, 4), 999);
    due("SALE", x.told(0, 7), 0);
    due("EXTRA", x.extra(0, 0), 99);
    due("EXTRA", x.extra(1, 0), -99);
    says(11, "of a number that may not be its first byte");
    String[] wide = {"61", "061", "100", "600", "999", "1000", "00061", "256", "65536", "2147483647", "2147483648", "4294967295", "4294967296",
      "4294967297", "4294967356", "8589934592", "9223372036854775808", "18446744073709551615", "18446744073709551616", "18446744073709551617",
      "10000000000", "100000000000000000000000000000000000000", "9".repeat(119), "1" + "0".repeat(118)};
    for (String number : wide) fault(NEW, "p^" + number);
    for (String number : wide) {
      if (number.length() > 90 || number.length() < 4 || number.equals("061") || number.equals("00061")) continue;
      fault(NEW, "gp01x1=^" + number + ",1x1=1");
      fault(NEW, "gp01x1=1,1x1=^" + number);
    }
    for (String number : new String[] {"100", "256", "999", "0100", "4294967296", "4294967395", "18446744073709551616"}) {
      fault(FEW_READ, "abo+^" + number);
      fault(FEW_READ, "abe-^" + number);
      fault(FEW_READ, "abn;abf-^" + number + ";abn");
    }
    fault(NEW, "p^61;q");
    fault(NEW, "p^61q");
    fault(NEW, "p^61 1");
    fault(NEW, "p00^q1");
  }

  private static void blanks() {
    says(11, "(blanks do not count, but end a number)");
    GoodsBook x = new GoodsBook();
    due("blanks everywhere", read(x, "  p  60  ;  g  p  0  1  x  2  =  3  ,  4  x  4  =  999  ; p 0"), 3);
    int[] told = {0, 0, 1, 2, 3, 4, 4, 999};
    for (int what = 0; what < 8; what++) due("told(0, " + what + ")", x.told(0, what), told[what]);
    due("seen(0)", x.seen(0, 1), 60);
    due("seen(1)", x.seen(1, 1), 0);
    GoodsBook y = FEW_READ.make();
    due("blanks in a BOND", read(y, " a  b o  +  7  ; c a n "), 2);
    due("its EXTRA", y.extra(2, 0), 7);
    fault(NEW, "p6 ^0");
    fault(NEW, "p 6 ^0");
    fault(NEW, "p0 ^0");
    fault(NEW, "gp01x1=1 ^0,1x1=1");
    fault(NEW, "gp01x1=1,1x1=1 ^0");
    fault(FEW_READ, "abo+1 ^0");
    fault(FEW_READ, "abo+ 1 ^0;abn");
    taken(NEW, "p 60", 1);
    taken(NEW, "p60 ", 1);
    taken(NEW, " p60", 1);
    taken(NEW, "p60 ;p60", 2);
    taken(NEW, "p60; p60", 2);
  }

  private static void places() {
    says(11, "FAULTS: -20 less the place of the first byte that can't stand there");
    fault(NEW, "^qqq");
    fault(NEW, "p^x;q");
    fault(NEW, " ^q");
    fault(NEW, "   ^q");
    fault(NEW, "p ^q");
    fault(NEW, "p 1 ; ^q");
    fault(NEW, " p ^61");
    fault(NEW, "p1 ; p  ^61 ; q");
    fault(NEW, " ".repeat(119) + "^q");
    fault(NEW, "p" + " ".repeat(117) + "^61");
    fault(NEW, "p1;p2;p3;gp04x4=1,^5x5=1");
    says(11, "(the end: how many bytes there are)");
    fault(NEW, "^");
    fault(NEW, " ^");
    fault(NEW, " ".repeat(120) + "^");
    fault(NEW, "p^");
    fault(NEW, "p ^");
    fault(NEW, "p1;^");
    fault(NEW, "p1; ^");
    fault(NEW, "p1 ;  ^");
    fault(NEW, "g^");
    fault(NEW, "gp^");
    fault(NEW, "gp0^");
    fault(NEW, "gp01^");
    fault(NEW, "gp01x^");
    fault(NEW, "gp01x1^");
    fault(NEW, "gp01x1=^");
    fault(NEW, "gp01x1=1^");
    fault(NEW, "gp01x1=1 ^");
    fault(NEW, "gp01x1=1,^");
    fault(NEW, "gp01x1=1,1^");
    fault(NEW, "gp01x1=1,1x^");
    fault(NEW, "gp01x1=1,1x1^");
    fault(NEW, "gp01x1=1,1x1=^");
    fault(FEW_READ, "a^");
    fault(FEW_READ, "ab^");
    fault(FEW_READ, "abo^");
    fault(FEW_READ, "abo+^");
    fault(FEW_READ, "abo+ ^");
    fault(FEW_READ, "abn;^");
  }

  private static void room() {
    says(11, "A FAULT (nothing comes)");
    fault(FEW_READ, "gp01x1=1,1x1=1;abn;abo+5;^q");
    fault(NEW, "p1;p2;gp04x4=9,4x4=^1000");
    fault(FEW_READ, G + ";dan;d^dn");
    says(11, "FULL: not all have room (nothing comes)");
    taken(NEW, "p1;p2;p3", 3);
    refused("four pages", NEW, x -> read(x, "p1;p2;p3;p4"), FULL);
    refused("a fourth page", FEW_READ, x -> read(x, "p1"), FULL);
    refused("a good, and a fourth page", FEW_READ, x -> read(x, G + ";p1"), FULL);
    refused("a fourth page, and a good", FEW_READ, x -> read(x, "p1;" + G + ";abn"), FULL);
    taken(NEW, times(G, 6), 6);
    refused("seven goods", NEW, x -> read(x, times(G, 7)), FULL);
    taken(FEW_READ, times(G, 3), 3);
    refused("four goods to three", FEW_READ, x -> read(x, times(G, 4)), FULL);
    refused("four goods to three, and a bond of the last with room", FEW_READ, x -> read(x, times(G, 4) + ";fan"), FULL);
    refused("a seventh good", ALL_READ, x -> read(x, "gf34x4=9,4x4=9"), FULL);
    taken(FEW_READ, times("abn", 10), 10);
    refused("eleven bonds to two", FEW_READ, x -> read(x, times("abn", 11)), FULL);
    refused("a thirteenth bond", ALL_READ, x -> read(x, "abo+5"), FULL);
    refused("a page, a good, a bond without room", ALL_READ, x -> read(x, "p1;" + G + ";abn"), FULL);
    says(11, "of several the first that a call names: a FAULT, FULL");
    fault(NEW, "p1;p2;p3;p4;^q");
    fault(NEW, "p1;p2;p3;p4;^");
    fault(FEW_READ, "p1;p^61");
    fault(ALL_READ, "p1;^q");
    fault(ALL_READ, G + "^q");
    fault(ALL_READ, "gp01x1=1,1x1=^1000");
    fault(ALL_READ, "abn;^q");
    fault(ALL_READ, "abo+^100");
    fault(ALL_READ, G + ";a^gn");
  }

  private static void comes() {
    says(11, "PAGES, GOODS, BONDS come, too: how many CLAUSES");
    GoodsBook x = FEW.make();
    x.book();
    due("the PAGE of the tape", x.seen(2, 1), 1);
    due("the PAGES ahead of it", x.seen(0, 10) + x.seen(1, 20), 30);
    due("book", read(x, "gr21x4=8,4x1=9;dah;bdo-7"), 3);
    int[] counts = {3, 4, 4, 2, 2};
    for (int what = 0; what < 5; what++) due("count(" + what + ")", x.count(what), counts[what]);
    int[] told = {2, 2, 1, 4, 8, 4, 1, 9};
    for (int what = 0; what < 8; what++) due("told(3, " + what + ")", x.told(3, what), told[what]);
    due("extra(0)", x.extra(0, 5), 5);
    due("extra(3)", x.extra(3, -7), -7);
    due("THE PLAN stays", x.choose(0, 1) * 10 + x.choose(1, 3), 13);
    due("the new GOOD is out", x.choose(3, 0), 0);
    x.choose(3, 1);
    due("AHEAD: d is not ahead of a", x.breaks(0), 2);
    says(11, "What comes counts at once for what is asked behind it");
    GoodsBook y = of("p1;gp01x1=5,1x1=5");
    due("best(-1)", y.best(-1), 5);
    due("fits(3)", y.fits(3), BAD);
    due("book", read(y, "p2;gp04x4=7,4x4=6;abe+3"), 3);
    due("best(-1)", y.best(-1), 14 + 5 + 3);
    due("fits(3)", y.fits(3), 1);
    due("fits(4)", y.fits(4), 0);
    due("steps(-1)", y.steps(-1), 22);
    due("mended(0, -1)", y.mended(0, -1), 0);
  }
}
