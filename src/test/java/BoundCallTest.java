/**
 * The bounds that the promises name under their own headings, beside those of the Terms and the refusals: what a call
 * answers at its ends. Each section is a sentence of a promise, in its own words.
 */
public final class BoundCallTest {
  private static final long LETTERS = 0x4847464544434241L;

  public static void main(String[] args) {
    newObject();
    feedNumbers();
    feedLowestFirst();
    feedRoom();
    spellTakesTape();
    spellFaultCountsNothing();
    spellRefused();
    columns();
    show();
    law();
    kind();
    pact();
    fourCounts();
    month();
    over();
    alone();
    put();
    judge();
    imageAndOn();
    counts();
    countsOfRefusals();
    countOfAnother();
    Due.end();
  }

  private static void newObject() {
    Due.section("Promise 1: No SPELLS");
    NineLands x = new NineLands();
    Due.due("spells", x.count(0), 0);
    Due.due("spell 0", x.spellOf(0, 0), -1);
    Due.due("behind", x.count(5), 0);
    Due.due("all", x.all(), 0);
    Due.due("another object's are its own", Due.life("0b1-2*3").count(0) + x.count(0), 1);
  }

  private static void feedNumbers() {
    Due.section("Promise 2: n (1 .. 8) bytes come");
    for (int n = 1; n <= 8; n++) {
      NineLands x = new NineLands();
      Due.due("n " + n, x.feed(n, 0), n);
      Due.due("n " + n + ": the tape", x.count(3), n);
    }
    NineLands x = new NineLands();
    Due.due("n 0", x.feed(0, 0), -4);
    Due.due("n 9", x.feed(9, 0), -6);
    Due.due("none came", x.count(3), 0);
  }

  private static void feedLowestFirst() {
    Due.section("Promise 2: the lowest first");
    String text = "3a0-1*9!";
    for (int n = 1; n <= 8; n++) {
      NineLands x = new NineLands();
      Due.feed(x, text.substring(0, 8 - n));
      long bytes = LETTERS << 7;
      for (int i = n - 1; i >= 0; i--) {
        bytes = bytes << 8 | text.charAt(8 - n + i);
      }
      Due.due("the last " + n, x.feed(n, bytes), 8);
      Due.due("the text, the last " + n + " at once", x.spell(), 0);
      Due.due("land", x.spellOf(0, 0), 3);
      Due.due("pay", x.spellOf(0, 4), 9);
      Due.due("paid in", x.spellOf(0, 5), 0);
    }
    NineLands high = new NineLands();
    Due.feed(high, "3a0-1*9");
    high.feed(1, -256L + '!');
    Due.due("bytes above the first do not come", high.spell(), 0);
    NineLands negative = new NineLands();
    negative.feed(8, -1L);
    Due.due("bytes of 255", negative.spell(), -20);
  }

  private static void feedRoom() {
    Due.section("Promise 2: -6 (above 16)");
    for (int n = 1; n <= 8; n++) {
      NineLands x = new NineLands();
      x.feed(8, 0);
      Due.due("to " + (16 - n), n == 8 ? 8 : x.feed(8 - n, 0), 16 - n);
      Due.due("above 16 by " + n, n == 8 ? -6 : x.feed(n + 1, 0), -6);
      Due.due("to 16 by " + n, x.feed(n, 0), 16);
      Due.due("to 17", x.feed(1, 0), -6);
      Due.due("16 still", x.count(3), 16);
    }
  }

  private static void spellTakesTape() {
    Due.section("Promise 3: THE TAPE becomes a SPELL, and has none: its number");
    NineLands x = new NineLands();
    Due.due("the first", Due.spell(x, "0b1-2*3"), 0);
    Due.due("the tape", x.count(3), 0);
    Due.due("nothing on it", x.spell(), -20);
    Due.due("the second", Due.spell(x, "1b1-2*3"), 1);
    Due.due("the tape again", x.count(3), 0);
    x.show(0, false);
    Due.due("the third, one is not shown", Due.spell(x, "1b1-2*3"), 2);
  }

  private static void spellFaultCountsNothing() {
    Due.section("Promise 3: if it has a FAULT, -20 less its place (nothing is counted; THE TAPE has none, too)");
    NineLands x = Due.life("5f10-20*30!");
    Due.due("place 0", Due.spell(x, "x"), -20);
    Due.due("place 14", Due.spell(x, "0b100-200*300!!"), -34);
    Due.due("far in the text", Due.spell(x, "0b100-800*999"), 1);
    Due.due("the end", Due.spell(x, "0b100-900*"), -30);
    Due.due("the tape", x.count(3), 0);
    Due.due("spells", x.count(0), 2);
    Due.due("shown", x.count(1), 2);
    Due.due("behind", x.count(5), 800);
    Due.due("no third", x.spellOf(2, 0), -1);
    Due.due("refusals but that one", x.count(11), 1);
    for (int what = 12; what <= 16; what++) {
      Due.due("no refusal " + what, x.count(what), 0);
    }
  }

  private static void spellRefused() {
    Due.section("Promise 3: -6 20. (Refused: THE TAPE stays.)");
    NineLands x = new NineLands();
    x.image();
    for (int i = 0; i < 20; i++) {
      Due.due("spell " + i, Due.spell(x, "0b1-2*3"), i);
    }
    Due.feed(x, "4s7-9*5");
    Due.due("refused", x.spell(), -6);
    Due.due("the tape stays", x.count(3), 7);
    Due.due("refused again", x.spell(), -6);
    Due.due("two refusals", x.count(16), 2);
    x.on();
    Due.due("with room again it is read", x.spell(), 0);
    Due.due("its land", x.spellOf(0, 0), 4);
    Due.due("its from", x.spellOf(0, 2), 7);
  }

  private static void columns() {
    Due.section("Promise 4: 0 LAND, 1 WORK (0 .. 3), 2 FROM, 3 TILL, 4 PAY, 5 1 PAID IN, 6 1 SHOWN");
    String[] texts = {"0s0-900*999", "5b899-900*0!", "3f1-2*7", "2a500-600*70"};
    int[][] due = {{0, 0, 0, 900, 999, 1, 1}, {5, 3, 899, 900, 0, 0, 1}, {3, 1, 1, 2, 7, 1, 1},
        {2, 2, 500, 600, 70, 1, 0}};
    NineLands x = Due.life(texts);
    x.show(3, false);
    for (int spell = 0; spell < texts.length; spell++) {
      for (int what = 0; what < 7; what++) {
        Due.due("spell " + spell + ", " + what, x.spellOf(spell, what), due[spell][what]);
      }
      Due.due("spell " + spell + ", 7", x.spellOf(spell, 7), -2);
      Due.due("spell " + spell + ", -1", x.spellOf(spell, -1), -2);
    }
    Due.due("spell 4", x.spellOf(4, 0), -1);
    Due.due("spell -1", x.spellOf(-1, 0), -1);
  }

  private static void show() {
    Due.section("Promise 5: SHOWN, or not: 1; 0 it was so");
    NineLands x = Due.life("0b1-2*3", "0b4-6*3", "0b7-8*3");
    for (int spell = 0; spell < 3; spell += 2) {
      Due.due("it is shown", x.show(spell, true), 0);
      Due.due("not", x.show(spell, false), 1);
      Due.due("it is not", x.show(spell, false), 0);
    }
    Due.due("one of three", x.count(1), 1);
    Due.due("which", x.counts(0, 0), 2);
    Due.due("shown", x.show(2, true), 1);
    Due.due("two of three", x.counts(0, 0), 3);
    Due.due("spell 3", x.show(3, true), -1);
    Due.due("spell -1", x.show(-1, true), -1);
  }

  private static void law() {
    Due.section("Promise 6: A LAW: what it was. -1 either");
    NineLands x = new NineLands();
    Due.due("land 0, law 0", x.law(0, 0, 1), 120);
    Due.due("land 5, law 8", x.law(5, 8, 1), 15);
    Due.due("what it was", x.law(0, 0, 2), 1);
    Due.due("the same again", x.law(0, 0, 2), 2);
    Due.due("land 6", x.law(6, 0, 1), -1);
    Due.due("land -1", x.law(-1, 8, 1), -1);
    Due.due("law 9", x.law(5, 9, 1), -1);
    Due.due("law -1", x.law(0, -1, 1), -1);
    Due.due("still", x.law(0, 0, 0), 2);
  }

  private static void kind() {
    Due.section("Promise 7: KIND: what it was");
    NineLands x = new NineLands();
    Due.due("land 0", x.kind(0, 5), 0);
    Due.due("land 5", x.kind(5, 4), 0);
    Due.due("what it was", x.kind(0, 5), 5);
    Due.due("of the other", x.kind(5, 0), 4);
    Due.due("land 6", x.kind(6, 0), -1);
    Due.due("land -1", x.kind(-1, 0), -1);
  }

  private static void pact() {
    Due.section("Promise 8: A PACT, or none: 1; 0 it was so");
    for (int a = 0; a < 6; a++) {
      for (int b = 0; b < 6; b++) {
        NineLands x = new NineLands();
        boolean twice = a == b;
        Due.due("none, " + a + " " + b, x.pact(a, b, false), twice ? -1 : 0);
        Due.due("made, " + a + " " + b, x.pact(a, b, true), twice ? -1 : 1);
        Due.due("made already, " + b + " " + a, x.pact(b, a, true), twice ? -1 : 0);
        Due.due("pacts", x.count(2), twice ? 0 : 1);
        Due.due("parted, " + b + " " + a, x.pact(b, a, false), twice ? -1 : 1);
        Due.due("parted already, " + a + " " + b, x.pact(a, b, false), twice ? -1 : 0);
        Due.due("pacts then", x.count(2), 0);
      }
    }
  }

  private static void fourCounts() {
    Due.section("Promise 9: 0 how many MONTHS COUNT, 1 all PAYS of these, 2 MONTHS PUT TOGETHER, 3 PAYS of these");
    NineLands x = Due.life("0b0-900*999", "5b0-1*3");
    x.pact(4, 5, true);
    int[][] due = {{900, 899100, 900, 899100}, {0, 0, 0, 0}, {0, 0, 0, 0}, {0, 0, 0, 0}, {0, 0, 1, 3}, {1, 3, 1, 3}};
    for (int land = 0; land < 6; land++) {
      for (int what = 0; what < 4; what++) {
        Due.due("land " + land + ", " + what, x.counts(land, what), due[land][what]);
      }
      Due.due("land " + land + ", 4", x.counts(land, 4), -2);
      Due.due("land " + land + ", -1", x.counts(land, -1), -2);
    }
  }

  private static void month() {
    Due.section("Promise 10: PAY of a MONTH that COUNTS; -9 it does not. -6 899");
    NineLands x = Due.life("5b0-1*0", "5b898-900*999", "4b899-900*1!");
    Due.due("0", x.month(5, 0), 0);
    Due.due("1", x.month(5, 1), -9);
    Due.due("897", x.month(5, 897), -9);
    Due.due("898", x.month(5, 898), 999);
    Due.due("899", x.month(5, 899), 999);
    Due.due("900", x.month(5, 900), -6);
    Due.due("not paid in", x.month(4, 899), -9);
  }

  private static void over() {
    Due.section("Promise 11: 0 how many MONTHS OVER, 1 the first; -9 none (1)");
    NineLands x = Due.life("0b0-900*1");
    Due.due("none", x.over(0), 0);
    Due.due("none: the first", x.over(1), -9);
    Due.due("2", x.over(2), -2);
    Due.due("-1", x.over(-1), -2);
    Due.spell(x, "1b0-1*1");
    Due.due("one", x.over(0), 1);
    Due.due("the first is 0", x.over(1), 0);
    Due.spell(x, "1b0-900*1");
    Due.due("all", x.over(0), 900);
  }

  private static void alone() {
    Due.section("Promise 12: What a LAND owes by a KIND, if no other one owes anything");
    NineLands x = Due.owing(100, 70, 0, 0, 0, 60);
    x.law(5, 5, 100);
    for (int kind = 0; kind < 6; kind++) {
      int due = kind == 0 ? 0 : 60;
      Due.due("land 5 by kind " + kind, x.alone(5, kind), due);
      x.kind(5, kind);
      Due.due("owed by it", x.owed(5), kind >= 4 ? 0 : due);
      Due.due("its own kind does not matter", x.alone(5, 1), 60);
    }
    Due.due("kind 6", x.alone(5, 6), -2);
    Due.due("kind -1", x.alone(0, -1), -2);
  }

  private static void put() {
    Due.section("Promise 25: A sum more of the row: how many. -6 (9999; 6, too)");
    NineLands x = new NineLands();
    for (int sums = 1; sums <= 6; sums++) {
      Due.due("10000", x.put(10000), -6);
      Due.due("-1", x.put(-1), -4);
      Due.due("sum " + sums, x.put(0), sums);
    }
    Due.due("a 7th", x.put(0), -6);
    Due.due("a 7th of 10000", x.put(10000), -6);
    Due.due("a 7th of -1", x.put(-1), -4);
    Due.due("6 still", x.count(4), 6);
    x.judge();
    Due.due("the first of a new row", x.put(9999), 1);
  }

  private static void judge() {
    Due.section("Promise 26: The row, which has none then, is JUDGED");
    NineLands x = new NineLands();
    for (int sums = 0; sums <= 6; sums++) {
      for (int i = 0; i < sums; i++) {
        x.put(0);
      }
      Due.due("of " + sums, x.judge(), sums < 6 ? sums : -9);
      Due.due("none then", x.count(4), 0);
      x.put(1);
      Due.due("not so", x.judge(), 0);
      Due.due("none then, too", x.count(4), 0);
    }
    Due.due("no refusal", x.count(13), 0);
  }

  private static void imageAndOn() {
    Due.section("Promises 27 and 28: how many SPELLS. -3 there is none");
    NineLands x = new NineLands();
    Due.due("there is none", x.on(), -3);
    Due.due("image of 0", x.image(), 0);
    Due.due("on to 0", x.on(), 0);
    for (int spells = 1; spells <= 20; spells++) {
      Due.spell(x, "0b1-2*3");
      Due.due("image", x.image(), spells);
      Due.due("on", x.on(), spells);
    }
    Due.due("one refusal", x.count(13), 1);
  }

  private static void counts() {
    Due.section("Promise 29: 0 SPELLS, 1 SHOWN, 2 PACTS, 3 bytes on THE TAPE, 4 sums of the row, 5 the MONTH behind");
    NineLands x = new NineLands();
    for (int spells = 1; spells <= 20; spells++) {
      Due.spell(x, "0b1-" + (spells + 100) + "*3!");
      Due.due("spells", x.count(0), spells);
      Due.due("shown", x.count(1), spells);
      Due.due("behind", x.count(5), spells + 100);
    }
    for (int spell = 0; spell < 20; spell++) {
      x.show(spell, false);
      Due.due("shown then", x.count(1), 19 - spell);
    }
    Due.due("behind all, shown or not", x.count(5), 120);
    Due.due("spells, shown or not", x.count(0), 20);
    int pacts = 0;
    for (int a = 0; a < 6; a++) {
      for (int b = 5; b > a; b--) {
        x.pact(b, a, true);
        pacts++;
        Due.due("pacts", x.count(2), pacts);
      }
    }
    Due.due("all pacts", pacts, 15);
    for (int bytes = 1; bytes <= 16; bytes++) {
      x.feed(1, 0);
      Due.due("bytes", x.count(3), bytes);
    }
    for (int sums = 1; sums <= 6; sums++) {
      x.put(0);
      Due.due("sums", x.count(4), sums);
    }
    Due.due("behind 900", Due.life("0b899-900*3", "0b1-2*3").count(5), 900);
  }

  private static void countsOfRefusals() {
    Due.section("Promise 29: 11 .. 16 REFUSALS -1 .. -6");
    NineLands x = new NineLands();
    for (int times = 1; times <= 30; times++) {
      x.owed(6);
      x.over(2);
      x.over(2);
      x.on();
      x.on();
      x.on();
      x.put(-1);
      x.put(10000);
      x.put(10000);
      int[] due = {times, 2 * times, 3 * times, times, 0, 2 * times};
      for (int what = 11; what <= 16; what++) {
        Due.due("count " + what, x.count(what), due[what - 11]);
      }
    }
    NineLands sums = Due.life("0b1-2*3");
    sums.proof(1);
    sums.year(0, 2);
    sums.proof(0);
    sums.year(-1, 0);
    sums.year(1000, 0);
    for (int what = 11; what <= 16; what++) {
      Due.due("of proof and year: count " + what, sums.count(what), what == 15 ? 0 : 1);
    }
  }

  private static void countOfAnother() {
    Due.section("Promise 29: -9 for another what");
    NineLands x = Due.life("0b1-2*3");
    x.put(-1);
    int[] others = {Integer.MIN_VALUE, -11, -1, 6, 7, 9, 10, 17, 18, 20, Integer.MAX_VALUE};
    for (int what : others) {
      Due.due("count " + what, x.count(what), -9);
    }
    Due.due("no refusal", x.count(12), 0);
  }
}
