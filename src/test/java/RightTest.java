/** Promises 12 to 16: what a land owes alone, what is lacking, and what all owe in a ring. */
public final class RightTest {
  public static void main(String[] args) {
    alone();
    rightsAndLimits();
    lacks();
    ring();
    all();
    turns();
    kindsInTheRing();
    Due.end();
  }

  private static void kinds(NineLands x, int land, int own, int least, int put, int more) {
    int[] due = {own, least, put, more, least, more};
    for (int kind = 0; kind < 6; kind++) {
      Due.due("land " + land + " by kind " + kind, x.alone(land, kind), due[kind]);
    }
  }

  private static void alone() {
    Due.section("promise 12");
    NineLands x = Due.life("0b0-150*33", "1b100-400*77");
    kinds(x, 0, 495, 495, 495, 495);
    kinds(x, 1, 2310, 2310, 2310, 2310);
    kinds(x, 2, 0, 0, 0, 0);
    x.law(0, 2, 7);
    // 7 * 4950 / 100 is 346.5.
    kinds(x, 0, 346, 346, 346, 346);
    x.pact(0, 1, true);
    // 400 months, 150 * 33 + 250 * 77 = 24200; 1694 * 150 / 400 is 635.25.
    kinds(x, 0, 346, 346, 635, 635);
    x.law(0, 3, 2000);
    // The least comes before it is parted: 2000 * 150 / 400.
    kinds(x, 0, 346, 2000, 750, 2000);
    x.law(0, 0, 151);
    // No right of its own; one by what is put together.
    kinds(x, 0, 0, 0, 750, 750);
    x.law(0, 0, 401);
    kinds(x, 0, 0, 0, 0, 0);
    x.law(0, 0, 400);
    kinds(x, 0, 0, 0, 750, 750);
    Due.due("the kind told does not matter", x.kind(0, 2), 0);
    kinds(x, 0, 0, 0, 750, 750);
    // Land 1: 400 months, 300 * 77 + 100 * 33 = 26400; 2640 * 300 / 400.
    kinds(x, 1, 2310, 2310, 1980, 2310);
    x.law(1, 5, 100);
    kinds(x, 1, 2310, 2310, 1980, 2310);
    Due.due("land 6", x.alone(6, 0), -1);
    Due.due("land -1", x.alone(-1, 0), -1);
    Due.due("kind 6", x.alone(0, 6), -2);
    Due.due("kind -1", x.alone(0, -1), -2);
    Due.due("both", x.alone(6, 6), -1);
    Due.due("refusals -1", x.count(11), 3);
    Due.due("refusals -2", x.count(12), 2);
  }

  private static void rightsAndLimits() {
    Due.section("promise 12, rights and limits");
    NineLands x = Due.life("0b0-900*999");
    x.law(0, 2, 99);
    kinds(x, 0, 9999, 9999, 9999, 9999);
    x.law(0, 4, 500);
    kinds(x, 0, 500, 500, 500, 500);
    x.law(0, 3, 600);
    kinds(x, 0, 500, 600, 600, 600);
    x.law(0, 0, 900);
    kinds(x, 0, 500, 600, 600, 600);
    x.show(0, false);
    x.law(0, 0, 0);
    kinds(x, 0, 0, 0, 0, 0);
    NineLands one = Due.life("0b5-6*500", "1b6-8*100");
    one.law(0, 0, 0);
    kinds(one, 0, 50, 50, 50, 50);
    one.law(0, 0, 1);
    kinds(one, 0, 50, 50, 50, 50);
    one.law(0, 0, 2);
    kinds(one, 0, 0, 0, 0, 0);
    one.law(2, 0, 0);
    one.law(2, 3, 90);
    one.pact(2, 1, true);
    // A right by another's months alone gives nothing: none of them is its own.
    kinds(one, 2, 0, 0, 0, 0);
    Due.due("put together", one.counts(2, 2), 2);
  }

  private static void lacks() {
    Due.section("promise 13");
    NineLands x = Due.life("0b0-100*1", "1b50-115*1");
    Due.due("own", x.lacks(0, false), 20);
    Due.due("put", x.lacks(0, true), 20);
    x.pact(0, 1, true);
    Due.due("own, with a pact", x.lacks(0, false), 20);
    Due.due("put, with a pact", x.lacks(0, true), 5);
    x.law(0, 0, 100);
    Due.due("none", x.lacks(0, false), 0);
    Due.due("more than it needs", x.lacks(0, true), 0);
    x.law(0, 0, 101);
    Due.due("one", x.lacks(0, false), 1);
    x.law(2, 0, 0);
    Due.due("one month at least", x.lacks(2, false), 1);
    Due.due("one month at least, put", x.lacks(2, true), 1);
    x.law(3, 0, 900);
    Due.due("all", x.lacks(3, false), 900);
    Due.due("land 6", x.lacks(6, true), -1);
    Due.due("land -1", x.lacks(-1, false), -1);
    Due.due("refusals", x.count(11), 2);
  }

  /** Lands that owe these sums by their least, less all of what others owe. */
  private static NineLands ringOf(int... sums) {
    NineLands x = new NineLands();
    for (int land = 0; land < sums.length; land++) {
      Due.spell(x, land + "b" + land + "-" + (land + 1) + "*0");
      x.law(land, 0, 0);
      x.law(land, 3, sums[land]);
      x.law(land, 5, 100);
      x.kind(land, 4);
    }
    return x;
  }

  private static void ring() {
    Due.section("promises 14 to 16");
    NineLands x = ringOf(1000, 400);
    x.law(1, 5, 33);
    // 33 hundredths of 1000 off 400 leave 70, and then 930 stay of the 1000; so on.
    Due.due("rests", x.rests(), 1);
    Due.due("owed 0", x.owed(0), 895);
    Due.due("owed 1", x.owed(1), 105);
    Due.due("owed 2", x.owed(2), 0);
    Due.due("all", x.all(), 1000);
    Due.due("alone", x.alone(1, 4), 400);
    x.kind(0, 1);
    Due.due("owed 0 by its least", x.owed(0), 1000);
    Due.due("owed 1 by that", x.owed(1), 70);
    x.law(1, 5, 100);
    Due.due("0 at least", x.owed(1), 0);
    x.kind(1, 1);
    Due.due("nothing off", x.all(), 1400);
    x.law(1, 6, 100);
    Due.due("where he lives does not matter", x.all(), 1400);
    Due.due("land 6", x.owed(6), -1);
    Due.due("land -1", x.owed(-1), -1);
    Due.due("refusals", x.count(11), 2);
  }

  private static void all() {
    Due.section("promise 16");
    int[] sums = {1, 20, 300, 4000, 500, 70};
    NineLands x = Due.owing(sums);
    Due.due("all six", x.all(), 4891);
    for (int land = 0; land < 6; land++) {
      x.show(land, false);
      Due.due("all but " + land, x.all(), 4891 - sums[land]);
      x.show(land, true);
    }
    x.kind(5, 4);
    x.law(5, 5, 1);
    // One hundredth of what the other five owe is 48, cut.
    Due.due("less by one kind", x.all(), 4891 - 48);
    Due.due("the most", Due.owing(9999, 9999, 9999, 9999, 9999, 9999).all(), 59994);
    Due.due("nothing", new NineLands().all(), 0);
  }

  /** Land 1 gains by a turn what it has more than land 0, till land 0 owes nothing. */
  private static void turns() {
    Due.section("promise 15, turns");
    NineLands x = ringOf(1000, 1010);
    Due.due("20 turns: rests", x.rests(), 0);
    Due.due("20 turns: owed 0", x.owed(0), 810);
    Due.due("20 turns: owed 1", x.owed(1), 200);
    Due.due("20 turns: all", x.all(), 1010);
    x = ringOf(1000, 1056);
    Due.due("the 20th changes none: rests", x.rests(), 1);
    Due.due("the 20th changes none: owed 1", x.owed(1), 1056);
    x = ringOf(1000, 1053);
    Due.due("the 20th is the last change: rests", x.rests(), 0);
    Due.due("the 20th is the last change: owed 0", x.owed(0), 0);
    Due.due("the 20th is the last change: owed 1", x.owed(1), 1053);
    x = ringOf(9999, 9998);
    Due.due("by numbers: the first has all", x.owed(0), 9999);
    Due.due("by numbers: the second nothing", x.owed(1), 0);
    Due.due("by numbers: rests", x.rests(), 1);
  }

  private static void kindsInTheRing() {
    Due.section("promise 14, kinds");
    NineLands x = Due.life("0b0-10*100", "1b10-30*100", "2b30-60*200");
    for (int land = 0; land < 3; land++) {
      x.law(land, 0, 10);
      x.law(land, 3, 150);
      x.law(land, 5, 50);
    }
    x.pact(0, 1, true);
    // By their own months 100, 200, 600; put together 30 months: 300, a third and two.
    int[] kinds0 = {100, 150, 100, 150, 150, 150};
    for (int kind = 0; kind < 4; kind++) {
      x.kind(0, kind);
      Due.due("owed 0 by kind " + kind, x.owed(0), kinds0[kind]);
      Due.due("all by kind " + kind, x.all(), kinds0[kind] + 800);
    }
    x.kind(0, 4);
    Due.due("less of 800", x.owed(0), 0);
    x.law(0, 5, 5);
    Due.due("less", x.owed(0), 110);
    x.law(0, 0, 11);
    Due.due("no right, less", x.owed(0), 0);
    x.kind(0, 5);
    Due.due("both", x.owed(0), 60);
    x.law(0, 5, 0);
    Due.due("both, nothing off", x.owed(0), 100);
  }
}
