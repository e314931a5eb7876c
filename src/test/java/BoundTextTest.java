/**
 * The bounds that the document's Terms name in their first part: lives, texts, laws, kinds, months that count, pacts.
 * Each section is a sentence, in its own words, on both sides of its bound.
 */
public final class BoundTextTest {
  private static final String WHOLE = "2a1-456*789!";

  public static void main(String[] args) {
    monthsOfLife();
    calls();
    spellsAtMost();
    bytesAtMost();
    land();
    work();
    from();
    dash();
    till();
    tillIsNotHeld();
    tillAboveFrom();
    tillAtMost();
    star();
    pay();
    notPaidIn();
    faultAtTheFirst();
    faultAtTheEnd();
    faultOfTill();
    shownAtFirst();
    laws();
    kindsOfCounts();
    monthCounts();
    greatestPay();
    over();
    pacts();
    putTogether();
    leastLandPays();
    Due.end();
  }

  /** What spell() answers to a text on a new object, and that the tape has none then. */
  private static void read(String text, int answer) {
    NineLands x = new NineLands();
    Due.due("spell of " + text, Due.spell(x, text), answer);
    Due.due("the tape after " + text, x.count(3), 0);
    Due.due("spells after " + text, x.count(0), answer == 0 ? 1 : 0);
  }

  private static void fault(String text, int place) {
    read(text, -20 - place);
  }

  private static void column(String text, int what, int want) {
    NineLands x = new NineLands();
    Due.due("spell of " + text, Due.spell(x, text), 0);
    Due.due("column " + what + " of " + text, x.spellOf(0, what), want);
  }

  private static void monthsOfLife() {
    Due.section("A LIFE by MONTHS 0 .. 899 of age");
    NineLands x = Due.life("0b0-900*7");
    Due.due("month 0", x.month(0, 0), 7);
    Due.due("month -1", x.month(0, -1), -4);
    Due.due("month 899", x.month(0, 899), 7);
    Due.due("month 900", x.month(0, 900), -6);
    Due.due("all of them", x.counts(0, 0), 900);
    Due.due("the first alone", Due.life("0b0-1*7").counts(0, 0), 1);
    Due.due("the last alone", Due.life("0b899-900*7").counts(0, 0), 1);
  }

  private static void calls() {
    Due.section("An object is used for at most 512 calls");
    NineLands x = new NineLands();
    for (int call = 1; call < 512; call++) {
      Due.due("call " + call, x.put(-1), -4);
    }
    Due.due("call 512", x.count(14), 511);
  }

  private static void spellsAtMost() {
    Due.section("SPELLS (20 at most) have numbers from 0 on");
    NineLands x = new NineLands();
    Due.due("no number 0 yet", x.spellOf(0, 0), -1);
    for (int i = 0; i < 20; i++) {
      Due.due("spell " + i, Due.spell(x, "0b" + i + "-" + (i + 1) + "*5"), i);
      Due.due("number " + i, x.spellOf(i, 2), i);
      Due.due("number " + (i + 1), x.spellOf(i + 1, 2), -1);
    }
    Due.due("20 count", x.counts(0, 0), 20);
    Due.due("a 21st", Due.spell(x, "0b30-40*5"), -6);
    Due.due("20 still", x.count(0), 20);
    Due.due("20 count still", x.counts(0, 0), 20);
    NineLands apart = new NineLands();
    for (int i = 0; i < 20; i++) {
      Due.spell(apart, "0b" + (i * 45 + 1) + "-" + (i * 45 + 4) + "*" + (i + 1));
      Due.due("each counts", apart.counts(0, 0), 3 * (i + 1));
    }
    Due.due("pays of the 20", apart.counts(0, 1), 3 * 210);
    Due.due("pay of the last", apart.month(0, 19 * 45 + 3), 20);
  }

  private static void bytesAtMost() {
    Due.section("a TEXT (16 bytes at most)");
    NineLands x = new NineLands();
    Due.due("8", x.feed(8, 0), 8);
    Due.due("16", x.feed(8, 0), 16);
    Due.due("17", x.feed(1, 0), -6);
    NineLands y = new NineLands();
    y.feed(8, 0);
    Due.due("15", y.feed(7, 0), 15);
    Due.due("17 by two", y.feed(2, 0), -6);
    Due.due("16 by one", y.feed(1, 0), 16);
    fault("5a000-900*999!  ", 14);
    fault("5a000-900*999!9", 14);
    read("5a000-900*999!", 0);
  }

  private static void land() {
    Due.section("a LAND (0 .. 5)");
    for (int land = 0; land < 6; land++) {
      column(land + "b1-2*3", 0, land);
    }
    fault("6b1-2*3", 0);
    fault("/b1-2*3", 0);
    fault("9b1-2*3", 0);
    fault("b1-2*3", 0);
    fault("00b1-2*3", 1);
    fault((char) ('0' + 128) + "b1-2*3", 0);
    fault((char) 0 + "b1-2*3", 0);
  }

  private static void work() {
    Due.section("a letter of its WORK (s ship, f field, a army, b bench)");
    column("0s1-2*3", 1, 0);
    column("0f1-2*3", 1, 1);
    column("0a1-2*3", 1, 2);
    column("0b1-2*3", 1, 3);
    for (char other : "rtegc`SFAB0 ".toCharArray()) {
      fault("0" + other + "1-2*3", 1);
    }
    fault("0" + (char) ('b' + 128) + "1-2*3", 1);
    fault("01-2*3", 1);
    fault("0bb1-2*3", 2);
  }

  private static void from() {
    Due.section("FROM (1 to 3 digits)");
    fault("0b-2*3", 2);
    column("0b0-2*3", 2, 0);
    column("0b9-12*3", 2, 9);
    column("0b12-20*3", 2, 12);
    column("0b123-200*3", 2, 123);
    column("0b007-200*3", 2, 7);
    fault("0b1234-200*3", 5);
    fault("0b0000-200*3", 5);
    fault("0b/-2*3", 2);
    fault("0b:-2*3", 2);
    fault("0b1/-2*3", 3);
    fault("0b1:-2*3", 3);
    fault("0b+1-2*3", 2);
  }

  private static void dash() {
    Due.section("\"-\"");
    read("0b1-2*3", 0);
    fault("0b1,2*3", 3);
    fault("0b1.2*3", 3);
    fault("0b1--2*3", 4);
    fault("0b123.456*3", 5);
  }

  private static void till() {
    Due.section("TILL (1 to 3 digits)");
    fault("0b1-*3", 4);
    column("0b1-9*3", 3, 9);
    column("0b1-98*3", 3, 98);
    column("0b1-876*3", 3, 876);
    column("0b1-008*3", 3, 8);
    fault("0b1-1234*3", 7);
    fault("0b1-0123*3", 7);
    fault("0b1-/*3", 4);
    fault("0b1-:*3", 4);
    fault("0b1-2/*3", 5);
    fault("0b1-2:*3", 5);
  }

  private static void tillIsNotHeld() {
    Due.section("that MONTH not");
    NineLands x = Due.life("0b10-20*5");
    Due.due("before FROM", x.month(0, 9), -9);
    Due.due("FROM", x.month(0, 10), 5);
    Due.due("before TILL", x.month(0, 19), 5);
    Due.due("TILL", x.month(0, 20), -9);
    Due.due("how many", x.counts(0, 0), 10);
  }

  private static void tillAboveFrom() {
    Due.section("above FROM");
    column("0b7-8*3", 3, 8);
    fault("0b7-7*3", 4);
    fault("0b7-6*3", 4);
    column("0b0-1*3", 3, 1);
    fault("0b0-0*3", 4);
    column("0b99-100*3", 3, 100);
    fault("0b100-99*3", 6);
    fault("0b100-100*3", 6);
    fault("0b8-007*3", 4);
  }

  private static void tillAtMost() {
    Due.section("900 at most");
    column("0b1-899*3", 3, 899);
    column("0b1-900*3", 3, 900);
    fault("0b1-901*3", 4);
    fault("0b1-999*3", 4);
    column("0b899-900*3", 2, 899);
    fault("0b899-901*3", 6);
    fault("0b900-900*3", 6);
    fault("0b900-901*3", 6);
    fault("0b999-999*3", 6);
  }

  private static void star() {
    Due.section("\"*\"");
    read("0b1-2*3", 0);
    fault("0b1-2+3", 5);
    fault("0b1-2)3", 5);
    fault("0b1-2**3", 6);
    fault("0b1-2!", 5);
    fault("0b1-900x999", 7);
  }

  private static void pay() {
    Due.section("PAY (1 to 3 digits)");
    fault("0b1-2*", 6);
    fault("0b1-2*!", 6);
    column("0b1-2*0", 4, 0);
    column("0b1-2*9", 4, 9);
    column("0b1-2*98", 4, 98);
    column("0b1-2*999", 4, 999);
    column("0b1-2*000", 4, 0);
    column("0b1-2*012", 4, 12);
    fault("0b1-2*1234", 9);
    fault("0b1-2*0000", 9);
    fault("0b1-2*/", 6);
    fault("0b1-2*:", 6);
    fault("0b1-2*3/", 7);
    fault("0b1-2*3:", 7);
  }

  private static void notPaidIn() {
    Due.section("perhaps \"!\" (not PAID IN)");
    column("0b1-2*3", 5, 1);
    column("0b1-2*3!", 5, 0);
    column("0b1-2*999!", 5, 0);
    fault("0b1-2*3!!", 8);
    fault("0b1-2*3\"", 7);
    fault("0b1-2* !", 6);
    fault("0b1-2*3 ", 7);
    fault("0b1-2*3!4", 8);
  }

  private static void faultAtTheFirst() {
    Due.section("FAULT: the place of the first byte that can not stand");
    for (int place = 0; place < WHOLE.length(); place++) {
      for (int sign : new int[] {'x', ' ', 0, 255}) {
        fault(WHOLE.substring(0, place) + (char) sign + WHOLE.substring(place + 1), place);
        fault(WHOLE.substring(0, place) + (char) sign + "xxx", place);
      }
    }
    read(WHOLE, 0);
  }

  private static void faultAtTheEnd() {
    Due.section("(the end, if something lacks)");
    for (int end = 0; end < WHOLE.length(); end++) {
      String text = WHOLE.substring(0, end);
      if (end > WHOLE.indexOf('*') + 1) {
        read(text, 0);
      } else {
        fault(text, end);
      }
    }
  }

  private static void faultOfTill() {
    Due.section("(of a TILL that can not be its first digit)");
    fault("0b123-123*1", 6);
    fault("0b123-12*1", 6);
    fault("0b12-12*1", 5);
    fault("0b1-901*1", 4);
    // The first fault is told: behind it nothing matters.
    fault("0b123-122", 6);
    fault("0b123-122x", 6);
    fault("0b123-1", 6);
    fault("0b123-1223", 6);
    fault("0b1-9010", 4);
    // Three digits that can be, and a fourth that can not stand.
    fault("0b1-9000", 7);
    fault("0b900-", 6);
    fault("0b900-*", 6);
  }

  private static void shownAtFirst() {
    Due.section("A SPELL is SHOWN (at first) or not");
    NineLands x = Due.life("0b1-2*3", "0b5-7*3!");
    Due.due("at first", x.spellOf(0, 6), 1);
    Due.due("not paid in, at first", x.spellOf(1, 6), 1);
    Due.due("both", x.count(1), 2);
    Due.due("it was so", x.show(0, true), 0);
    x.show(0, false);
    Due.due("not", x.spellOf(0, 6), 0);
    x.show(0, true);
    Due.due("again", x.spellOf(0, 6), 1);
  }

  private static void law(String name, int law, int most, int first) {
    Due.section("LAWS of a LAND: " + name);
    for (int land = 0; land < 6; land++) {
      NineLands x = new NineLands();
      Due.due("at first", x.law(land, law, 1), first);
      Due.due("-1", x.law(land, law, -1), -4);
      Due.due("above", x.law(land, law, most + 1), -6);
      Due.due("refused twice", x.law(land, law, 0), 1);
      Due.due("least", x.law(land, law, most - 1), 0);
      Due.due("one less than most", x.law(land, law, most), most - 1);
      Due.due("most", x.law(land, law, most), most);
      for (int other = 0; other < 6; other++) {
        Due.due("land " + other, x.law(other, law, 0), other == land ? most : first);
      }
    }
  }

  private static void laws() {
    law("0 NEEDS (months, 0 .. 900; 120 at first)", 0, 900, 120);
    law("1 AGE (0 .. 900; 780)", 1, 900, 780);
    law("2 RATE (0 .. 99; 10)", 2, 99, 10);
    law("3 LEAST (0 .. 9999; 0)", 3, 9999, 0);
    law("4 TOP (0 .. 9999; 9999)", 4, 9999, 9999);
    law("5 OFF (0 .. 100; 0)", 5, 100, 0);
    law("6 AWAY (0 .. 100; 0)", 6, 100, 0);
    law("7 LATER (0 .. 50; 0)", 7, 50, 0);
    law("8 WORKS that count (bits of s f a b; 15)", 8, 15, 15);
    Due.section("WORKS that count (bits of s f a b)");
    NineLands x = Due.life("0s0-1*1", "0f1-3*1", "0a3-7*1", "0b7-15*1");
    for (int works = 0; works < 16; works++) {
      x.law(0, 8, works);
      Due.due("works " + works, x.counts(0, 0), works);
    }
  }

  private static void kindsOfCounts() {
    Due.section("KINDS: 0 OWN (at first), 1 LEAST, 2 PUT, 3 MORE, 4 LESS, 5 BOTH");
    for (int land = 0; land < 6; land++) {
      NineLands x = new NineLands();
      Due.due("at first", x.kind(land, 0), 0);
      Due.due("-1", x.kind(land, -1), -2);
      Due.due("5", x.kind(land, 5), 0);
      Due.due("6", x.kind(land, 6), -2);
      Due.due("still", x.kind(land, 0), 5);
    }
    // Its own 100 months of 10, and 200 of 40 more by a pact; land 2 owes 60.
    NineLands x = Due.life("0b0-100*10", "1b100-300*40", "2b0-60*10");
    x.pact(0, 1, true);
    x.law(0, 0, 100);
    x.law(0, 3, 120);
    x.law(0, 5, 10);
    x.law(1, 0, 201);
    x.law(2, 0, 60);
    int[] due = {100, 120, 300, 300, 120 - 6, 300 - 6};
    for (int kind = 0; kind < 6; kind++) {
      x.kind(0, kind);
      Due.due("owed by kind " + kind, x.owed(0), due[kind]);
    }
  }

  private static void monthCounts() {
    Due.section("A MONTH COUNTS, if a SPELL there that is SHOWN and PAID IN, with a WORK that counts, holds it");
    NineLands x = Due.life("3s10-20*5");
    Due.due("it counts", x.month(3, 15), 5);
    Due.due("not there", x.month(2, 15), -9);
    Due.due("not held", x.month(3, 20), -9);
    x.show(0, false);
    Due.due("not shown", x.month(3, 15), -9);
    x.show(0, true);
    x.law(3, 8, 14);
    Due.due("its work does not count", x.month(3, 15), -9);
    x.law(3, 8, 1);
    Due.due("its work alone counts", x.month(3, 15), 5);
    Due.due("not paid in", Due.life("3s10-20*5!").month(3, 15), -9);
    Due.due("a pay of 0 counts", Due.life("3s10-20*0").month(3, 15), 0);
    Due.due("one of two that holds it is enough", Due.life("3s10-20*5!", "3f15-16*2").month(3, 15), 2);
  }

  private static void greatestPay() {
    Due.section("its PAY is the greatest of these");
    NineLands x = Due.life("0b0-10*50", "0s0-10*70", "0f0-10*60", "0a0-10*999!", "1b0-10*999");
    Due.due("the greatest", x.month(0, 5), 70);
    Due.due("all pays", x.counts(0, 1), 700);
    Due.due("months count once", x.counts(0, 0), 10);
    x.law(0, 8, 14);
    Due.due("of works that count", x.month(0, 5), 60);
    x.show(2, false);
    Due.due("of those shown", x.month(0, 5), 50);
  }

  private static void over() {
    Due.section("OVER: MONTHS that two SPELLS or more hold (SHOWN; any)");
    NineLands x = Due.life("0b10-20*5");
    Due.due("one", x.over(0), 0);
    Due.due("one: none is the first", x.over(1), -9);
    Due.spell(x, "0b20-30*5");
    Due.due("one each", x.over(0), 0);
    Due.spell(x, "5s19-20*0!");
    Due.due("two, of any kind", x.over(0), 1);
    Due.due("two: the first", x.over(1), 19);
    Due.spell(x, "4f19-20*0");
    Due.due("three count once", x.over(0), 1);
    x.law(4, 8, 0);
    x.show(0, false);
    Due.due("two of any work", x.over(0), 1);
    x.show(2, false);
    Due.due("one that is shown", x.over(0), 0);
    Due.due("one that is shown: none is the first", x.over(1), -9);
    Due.due("month 0", Due.life("0b0-1*5", "0b0-2*5").over(1), 0);
    Due.due("month 899", Due.life("0b899-900*5", "0b890-900*5").over(1), 899);
    Due.due("how many then", Due.life("0b899-900*5", "0b890-900*5").over(0), 1);
  }

  private static void pacts() {
    Due.section("PACTS are between two LANDS (told)");
    NineLands x = Due.life("0b0-10*5", "5b20-40*7");
    Due.due("none at first", x.counts(0, 2), 10);
    Due.due("told", x.pact(5, 0, true), 1);
    Due.due("of one", x.counts(0, 2), 30);
    Due.due("of the other", x.counts(5, 2), 30);
    Due.due("of no third", x.counts(1, 2), 0);
    Due.due("one pact", x.count(2), 1);
    Due.due("parted from the other side", x.pact(0, 5, false), 1);
    Due.due("of one no more", x.counts(0, 2), 10);
    Due.due("of the other no more", x.counts(5, 2), 20);
    Due.due("with itself", x.pact(0, 0, true), -1);
  }

  private static void putTogether() {
    Due.section("PUT TOGETHER: MONTHS that COUNT there, and those (others) that COUNT in LANDS with a PACT with it");
    NineLands x = Due.life("0b0-10*5", "1s5-15*9", "2b14-30*1");
    x.pact(0, 1, true);
    x.pact(1, 2, true);
    Due.due("its own and others", x.counts(0, 2), 15);
    // A month of its own is paid by its own, be it less.
    Due.due("pays of both", x.counts(0, 3), 10 * 5 + 5 * 9);
    Due.due("with two lands", x.counts(1, 2), 30);
    Due.due("pays of all three", x.counts(1, 3), 10 * 9 + 5 * 5 + 15);
    Due.due("not through a third", x.counts(2, 2), 16 + 9);
    x.law(1, 8, 14);
    Due.due("by the laws of the other", x.counts(0, 2), 10);
    x.law(1, 8, 15);
    x.law(0, 8, 7);
    Due.due("not by its own laws", x.counts(0, 2), 10);
    Due.due("the other's by its own", x.counts(1, 2), 10 + 15);
    x.law(0, 8, 15);
    x.show(1, false);
    Due.due("not shown", x.counts(0, 2), 10);
  }

  private static void leastLandPays() {
    Due.section("the PAY of the least such LAND");
    NineLands x = Due.life("4b0-10*9", "2b0-10*3", "1b0-10*7", "5b20-30*1");
    x.pact(3, 4, true);
    Due.due("of one", x.counts(3, 3), 90);
    x.pact(3, 2, true);
    Due.due("of two the least", x.counts(3, 3), 30);
    Due.due("each month once", x.counts(3, 2), 10);
    x.pact(3, 1, true);
    Due.due("of three the least, not the least pay", x.counts(3, 3), 70);
    x.pact(3, 2, false);
    Due.due("still", x.counts(3, 3), 70);
    x.law(1, 8, 7);
    Due.due("where it does not count another pays", x.counts(3, 3), 90);
    x.pact(3, 0, true);
    x.pact(3, 5, true);
    Due.due("a land without the month does not matter", x.counts(3, 3), 90 + 10);
  }
}
