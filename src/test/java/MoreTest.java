/** Promises 21 to 24: months more, the spell on which most hangs, a year more, and a proof. */
public final class MoreTest {
  private static final int SUM = 1000000000;

  public static void main(String[] args) {
    edge();
    edgeEnds();
    edgeRefused();
    hangs();
    year();
    yearEnds();
    yearRefused();
    proof();
    Due.end();
  }

  private static void edge() {
    Due.section("promise 21");
    NineLands x = Due.life("0b0-100*10", "1f100-200*50");
    Due.due("20 lack", x.edge(0, 0), 20);
    Due.due("pay does not matter to a right", x.edge(0, 999), 20);
    Due.due("another land, 20 too", x.edge(1, 0), 20);
    Due.due("120 lack", x.edge(2, 1), 120);
    Due.due("a month must bring something", x.edge(2, 0), -9);
    x.law(2, 0, 121);
    Due.due("121 lack", x.edge(2, 999), -9);
    x.law(0, 0, 100);
    Due.due("owed", x.owed(0), 100);
    // 10 hundredths of 3 a month: the fourth makes one more.
    Due.due("cut away till the fourth", x.edge(0, 3), 4);
    Due.due("pay 10", x.edge(0, 10), 1);
    Due.due("pay 0", x.edge(0, 0), -9);
    x.law(0, 8, 7);
    Due.due("bench work does not count", x.edge(0, 999), -9);
    x.law(0, 8, 8);
    x.law(0, 4, 100);
    Due.due("not above top", x.edge(0, 999), -9);
    Due.due("nothing has changed", x.count(0), 2);
    Due.due("months", x.counts(0, 0), 100);

    NineLands put = Due.life("0b0-100*10", "1b100-110*10");
    put.pact(0, 1, true);
    put.kind(0, 2);
    Due.due("10 lack, put together", put.edge(0, 10), 10);
    put.kind(0, 0);
    put.kind(1, 2);
    Due.due("in land 1, put together", put.edge(1, 10), 10);
    put.kind(1, 0);
    Due.due("in land 1, by its own", put.edge(1, 10), 110);
    put = Due.life("0s0-10*10", "1b10-30*40");
    put.pact(0, 1, true);
    put.kind(1, 2);
    put.law(1, 0, 30);
    // 10 hundredths of 900 are 90, two thirds of it 60; with 4 months of 40: 106 * 24 / 34 is 74.
    Due.due("owed", put.owed(1), 60);
    Due.due("the first month brings more", put.edge(1, 40), 1);
    // By pays of 1: 90 * 21 / 31 is 60, 90 * 22 / 32 is 61.
    Due.due("pays put together", put.edge(1, 1), 2);
  }

  private static void edgeEnds() {
    Due.section("promise 21, ends");
    NineLands x = Due.life("0b0-10*10", "0s0-880*1", "5b0-790*10!");
    x.show(1, false);
    x.law(0, 0, 30);
    Due.due("behind one that is not shown, 20 left", x.edge(0, 1), 20);
    x.law(0, 0, 31);
    Due.due("900 at most", x.edge(0, 1), -9);
    Due.due("behind", x.count(5), 880);
    NineLands full = Due.life("0b0-900*10");
    Due.due("no month is left", full.edge(0, 10), -9);
    Due.due("that is no refusal", full.count(13), 0);
    NineLands one = Due.life("0b0-899*10");
    one.law(1, 0, 1);
    Due.due("one is left", one.edge(1, 10), 1);

    // Land 0 owes 100; a month gives land 1 a right to its least, less what land 0 owes.
    NineLands ring = Due.life("0b0-10*100");
    ring.law(0, 0, 10);
    ring.kind(0, 4);
    ring.law(0, 5, 100);
    ring.law(1, 0, 0);
    ring.kind(1, 4);
    ring.law(1, 5, 100);
    ring.law(1, 3, 100);
    Due.due("all is taken off", ring.edge(1, 0), -9);
    ring.law(1, 3, 101);
    Due.due("one stays", ring.edge(1, 0), 1);
    ring.kind(1, 5);
    Due.due("by both", ring.edge(1, 0), 1);
    Due.due("unchanged", ring.owed(0), 100);
  }

  private static void edgeRefused() {
    Due.section("promise 21, refused");
    NineLands x = new NineLands();
    Due.due("land 6", x.edge(6, 0), -1);
    Due.due("land -1", x.edge(-1, 0), -1);
    Due.due("pay -1", x.edge(0, -1), -4);
    Due.due("pay 1000", x.edge(0, 1000), -6);
    Due.due("land first", x.edge(6, -1), -1);
    Due.due("pay 999", x.edge(0, 999), 120);
    for (int i = 0; i < 19; i++) {
      Due.spell(x, "0b0-1*1");
    }
    Due.due("19 spells", x.edge(0, 999), 119);
    Due.spell(x, "0b0-1*1");
    Due.due("20 spells", x.edge(0, 999), -3);
    Due.due("below before state", x.edge(0, -1), -4);
    Due.due("above before state", x.edge(0, 1000), -6);
    Due.due("land before state", x.edge(6, 0), -1);
    Due.due("refusals -1", x.count(11), 4);
    Due.due("refusals -3", x.count(13), 1);
    Due.due("refusals -4", x.count(14), 2);
    Due.due("refusals -6", x.count(16), 2);
  }

  private static void hangs() {
    Due.section("promise 22");
    NineLands x = new NineLands();
    Due.due("no spells", x.hangs(), -9);
    Due.spell(x, "0b0-119*10");
    Due.due("no right", x.hangs(), -9);
    Due.spell(x, "0b119-120*0");
    Due.due("each is needed: the first", x.hangs(), 0);
    Due.spell(x, "1b0-200*50");
    Due.due("the other land owes most", x.hangs(), 2);
    Due.due("all", x.all(), 1119);
    Due.spell(x, "1s0-200*50");
    Due.due("one holds the other's months", x.hangs(), 0);
    x.show(3, false);
    Due.due("not shown", x.hangs(), 2);
    Due.due("shown as before", x.spellOf(2, 6), 1);
    Due.due("not shown as before", x.spellOf(3, 6), 0);
    Due.due("all as before", x.all(), 1119);
    x.law(1, 8, 0);
    Due.due("a work that does not count", x.hangs(), 0);

    NineLands full = new NineLands();
    for (int i = 0; i < 20; i++) {
      Due.spell(full, "0b" + i + "-" + (i + 1) + "*" + (i == 19 ? 60 : 40));
    }
    full.law(0, 0, 1);
    Due.due("20 spells: the last", full.hangs(), 19);

    // Without the spell in land 1 land 0 owes more: nothing is taken off.
    NineLands ring = Due.life("1b0-1*0", "0b1-2*0");
    ring.law(0, 0, 0);
    ring.law(0, 3, 500);
    ring.law(0, 5, 100);
    ring.kind(0, 4);
    ring.law(1, 0, 0);
    ring.law(1, 3, 300);
    ring.kind(1, 1);
    Due.due("all in the ring", ring.all(), 500);
    Due.due("without 0 500, without 1 300", ring.hangs(), 1);
    ring.law(0, 3, 200);
    Due.due("without 1 as much as now", ring.hangs(), 0);
  }

  private static void year() {
    Due.section("promise 23");
    NineLands x = Due.life("0b0-120*10", "1s0-115*90", "2f120-200*50");
    Due.due("all", x.all(), 120);
    // In 0: 12 * 7 * 10 hundredths are 8.4; in 1 the right comes: 10350 + 84 make 1043.
    Due.due("the land", x.year(7, 0), 1);
    Due.due("worth", x.year(7, 1), 1043);
    x.law(1, 0, 128);
    Due.due("a right lacks one", x.year(7, 0), 0);
    Due.due("worth in 0", x.year(7, 1), 8);
    Due.due("no pay: of several the least", x.year(0, 0), 0);
    Due.due("no pay: worth", x.year(0, 1), 0);
    x.law(0, 8, 7);
    Due.due("bench work does not count in 0", x.year(999, 0), 0);
    Due.due("worth nothing", x.year(999, 1), 0);
    x.law(3, 0, 12);
    Due.due("12 months make a right", x.year(999, 0), 3);
    Due.due("10 hundredths of 11988", x.year(999, 1), 1198);
    x.law(3, 0, 13);
    Due.due("13 would", x.year(999, 1), 0);
    Due.due("nothing has changed", x.count(0), 3);
    Due.due("all still", x.all(), 0);

    // Pays come to two by a pact: land 4 has a right by its own month and land 5's twelve.
    NineLands put = Due.life("4b0-1*0");
    put.law(4, 0, 13);
    put.kind(4, 2);
    put.law(4, 3, 1300);
    put.pact(4, 5, true);
    Due.due("in 4: all of the least", put.year(0, 1), 1300);
    put.law(4, 3, 0);
    // 12 months of 100 and one of nothing: 10 hundredths of 1200.
    Due.due("in 4: pays put together", put.year(100, 1), 120);
    put.law(4, 3, 1300);
    put.law(4, 8, 1);
    put.law(5, 8, 7);
    Due.due("in neither", put.year(0, 1), 0);
    put = Due.life("4s0-1*0");
    put.law(4, 8, 1);
    put.law(4, 0, 13);
    put.kind(4, 2);
    put.law(4, 3, 1300);
    put.pact(4, 5, true);
    Due.due("in 5", put.year(0, 0), 5);
    Due.due("a thirteenth", put.year(0, 1), 100);
    put.law(4, 3, 0);
    // 12 months of 999 are 11988: 1198 then, and a thirteenth of it.
    Due.due("a thirteenth of the pays", put.year(999, 1), 92);
  }

  private static void yearEnds() {
    Due.section("promise 23, ends");
    NineLands x = Due.life("0b0-890*10");
    // Ten months are left, of 10 each.
    Due.due("900 at most", x.year(10, 1), 10);
    Due.spell(x, "5b0-899*1!");
    x.show(1, false);
    Due.due("one is left", x.year(10, 1), 1);
    Due.spell(x, "5b0-900*1!");
    x.show(2, false);
    Due.due("none is left, shown or not", x.year(10, 1), SUM + 3);
    Due.due("refusals -3", x.count(13), 1);

    // All lands hold the same twelve months; a year in one halves what the five others owe.
    NineLands less = new NineLands();
    for (int land = 0; land < 6; land++) {
      Due.spell(less, land + "b0-12*0");
      less.law(land, 0, 0);
      less.law(land, 3, land == 3 ? 2400 : 1200);
      less.kind(land, 2);
      for (int other = 0; other < land; other++) {
        less.pact(land, other, true);
      }
    }
    Due.due("all", less.all(), 8400);
    Due.due("where least is lost", less.year(0, 0), 3);
    Due.due("it is less", less.year(0, 1), -3000);
  }

  private static void yearRefused() {
    Due.section("promise 23, refused");
    NineLands x = new NineLands();
    Due.due("what 2", x.year(0, 2), SUM + 2);
    Due.due("what -1", x.year(0, -1), SUM + 2);
    Due.due("pay -1", x.year(-1, 0), SUM + 4);
    Due.due("pay 1000", x.year(1000, 1), SUM + 6);
    Due.due("what first", x.year(-1, 2), SUM + 2);
    for (int i = 0; i < 20; i++) {
      Due.due("spells", x.year(999, 0), 0);
      Due.spell(x, "0b0-1*1");
    }
    Due.due("20 spells", x.year(999, 0), SUM + 3);
    Due.due("below before state", x.year(-1, 0), SUM + 4);
    Due.due("above before state", x.year(1000, 0), SUM + 6);
    Due.due("what before state", x.year(999, 3), SUM + 2);
    Due.due("refusals -2", x.count(12), 4);
    Due.due("refusals -3", x.count(13), 1);
    Due.due("refusals -4", x.count(14), 2);
    Due.due("refusals -6", x.count(16), 2);
  }

  private static void proof() {
    Due.section("promise 24");
    NineLands x = Due.life("0b0-100*10", "0b100-130*10", "0b0-130*3!");
    Due.due("shown", x.proof(1), SUM + 3);
    x.show(1, false);
    x.show(2, false);
    Due.due("a right", x.proof(1), 130);
    Due.due("not paid in", x.proof(2), 0);
    Due.due("still not shown", x.spellOf(1, 6), 0);
    Due.due("owed as before", x.all(), 0);
    x.show(0, false);
    Due.due("without the other", x.proof(1), 0);
    Due.due("spell 3", x.proof(3), SUM + 1);
    Due.due("spell -1", x.proof(-1), SUM + 1);
    Due.due("spell most", x.proof(Integer.MAX_VALUE), SUM + 1);
    Due.due("refusals -1", x.count(11), 3);
    Due.due("refusals -3", x.count(13), 1);

    // The proof gives land 1 a right by its own, and with it less is put together for land 0.
    NineLands put = Due.life("0b0-10*0", "1b10-20*0", "1b20-40*0");
    put.kind(0, 2);
    put.law(0, 0, 20);
    put.law(0, 3, 300);
    put.pact(0, 1, true);
    put.show(2, false);
    Due.due("half of the least", put.all(), 150);
    Due.due("a quarter then", put.proof(2), -75);
  }
}
