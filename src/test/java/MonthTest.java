/** Promises 9 to 11: the months that count, their pays, and months that two spells hold. */
public final class MonthTest {
  public static void main(String[] args) {
    counts();
    works();
    putTogether();
    month();
    over();
    Due.end();
  }

  private static void fourCounts(NineLands x, int land, int months, int pays, int putMonths, int putPays) {
    Due.due("months of " + land, x.counts(land, 0), months);
    Due.due("pays of " + land, x.counts(land, 1), pays);
    Due.due("months put together of " + land, x.counts(land, 2), putMonths);
    Due.due("pays put together of " + land, x.counts(land, 3), putPays);
  }

  private static void counts() {
    Due.section("promise 9");
    // 0-10 pay 5, 5-20 pay 7: 5 months of 5, 15 of 7. The third is not paid in.
    NineLands x = Due.life("0b0-10*5", "0s5-20*7", "0f20-30*9!", "1a890-900*999");
    fourCounts(x, 0, 20, 130, 20, 130);
    fourCounts(x, 1, 10, 9990, 10, 9990);
    fourCounts(x, 2, 0, 0, 0, 0);
    x.show(1, false);
    fourCounts(x, 0, 10, 50, 10, 50);
    Due.spell(x, "0b2-4*0");
    fourCounts(x, 0, 10, 50, 10, 50);
    Due.spell(x, "0b0-900*999");
    fourCounts(x, 0, 900, 899100, 900, 899100);
    Due.due("land 6", x.counts(6, 0), -1);
    Due.due("land -1", x.counts(-1, 0), -1);
    Due.due("what 4", x.counts(0, 4), -2);
    Due.due("what -1", x.counts(0, -1), -2);
    Due.due("both", x.counts(6, 4), -1);
    Due.due("refusals -1", x.count(11), 3);
    Due.due("refusals -2", x.count(12), 2);
    NineLands one = Due.life("2b0-1*0");
    fourCounts(one, 2, 1, 0, 1, 0);
    NineLands many = new NineLands();
    for (int i = 0; i < 20; i++) {
      Due.spell(many, "0b" + (i * 45 + 1) + "-" + (i * 45 + 3) + "*" + (i + 1));
    }
    fourCounts(many, 0, 40, 420, 40, 420);
  }

  private static void works() {
    Due.section("promise 9, works");
    NineLands x = Due.life("0s0-1*1", "0f1-3*1", "0a3-7*1", "0b7-15*1");
    for (int works = 0; works < 16; works++) {
      x.law(0, 8, works);
      Due.due("works " + works, x.counts(0, 0), works);
    }
    x.law(1, 8, 0);
    Due.due("another land's law", x.counts(0, 0), 15);
  }

  private static void putTogether() {
    Due.section("promise 9, put together");
    NineLands x = Due.life("3b0-10*100", "1b5-20*10", "0s15-30*1", "2a25-40*7");
    x.pact(3, 1, true);
    x.pact(3, 0, true);
    // Land 3: its own ten; of 1 alone 10-15; 15-20 of 0 and 1, paid by 0; 20-30 of 0.
    fourCounts(x, 3, 10, 1000, 30, 1000 + 50 + 5 + 10);
    // No pact goes through a third land.
    fourCounts(x, 1, 15, 150, 20, 150 + 500);
    fourCounts(x, 0, 15, 15, 25, 15 + 1000);
    fourCounts(x, 2, 15, 105, 15, 105);
    x.law(0, 8, 14);
    fourCounts(x, 3, 10, 1000, 20, 1000 + 100);
    x.law(3, 8, 0);
    fourCounts(x, 3, 0, 0, 15, 150);
    fourCounts(x, 1, 15, 150, 15, 150);
  }

  private static void month() {
    Due.section("promise 10");
    NineLands x = Due.life("0b0-10*5", "0s5-20*7", "0f8-9*1", "1a890-900*0", "2b3-5*8!");
    Due.due("0", x.month(0, 0), 5);
    Due.due("4", x.month(0, 4), 5);
    Due.due("5", x.month(0, 5), 7);
    Due.due("the greatest, not the last", x.month(0, 8), 7);
    Due.due("19", x.month(0, 19), 7);
    Due.due("till is not held", x.month(0, 20), -9);
    Due.due("another land", x.month(1, 0), -9);
    Due.due("pay 0", x.month(1, 899), 0);
    Due.due("before from", x.month(1, 889), -9);
    Due.due("not paid in", x.month(2, 4), -9);
    x.pact(2, 0, true);
    Due.due("a pact does not matter", x.month(2, 0), -9);
    x.law(0, 8, 8);
    Due.due("its work does not count", x.month(0, 12), -9);
    x.show(0, false);
    Due.due("not shown", x.month(0, 4), -9);
    Due.due("month 900", x.month(0, 900), -6);
    Due.due("month -1", x.month(0, -1), -4);
    Due.due("month most", x.month(0, Integer.MAX_VALUE), -6);
    Due.due("month least", x.month(0, Integer.MIN_VALUE), -4);
    Due.due("land 6", x.month(6, 0), -1);
    Due.due("land -1", x.month(-1, 900), -1);
    Due.due("land first", x.month(6, -1), -1);
    Due.due("refusals -1", x.count(11), 3);
    Due.due("refusals -4", x.count(14), 2);
    Due.due("refusals -6", x.count(16), 2);
  }

  private static void over() {
    Due.section("promise 11");
    NineLands x = Due.life("0b10-20*5", "1s20-30*7");
    Due.due("next to each other", x.over(0), 0);
    Due.due("none", x.over(1), -9);
    Due.spell(x, "2a19-21*1!");
    Due.due("not paid in, other lands", x.over(0), 2);
    Due.due("the first", x.over(1), 19);
    x.law(2, 8, 0);
    Due.due("a work that does not count", x.over(0), 2);
    Due.spell(x, "3a18-22*1");
    Due.due("three hold one", x.over(0), 4);
    Due.due("the first now", x.over(1), 18);
    x.show(3, false);
    Due.due("not shown", x.over(0), 2);
    Due.due("what 2", x.over(2), -2);
    Due.due("what -1", x.over(-1), -2);
    Due.due("refusals", x.count(12), 2);
    NineLands whole = Due.life("0b0-900*1", "0b0-900*1");
    Due.due("all months", whole.over(0), 900);
    Due.due("month 0", whole.over(1), 0);
  }
}
