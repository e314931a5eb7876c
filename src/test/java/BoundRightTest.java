/**
 * The bounds that the document's Terms name in their second part: rights, the six kinds, what is owed in turn, what
 * lacks. Each section is a sentence, in its own words, on both sides of its bound.
 */
public final class BoundRightTest {
  public static void main(String[] args) {
    needs();
    oneAtLeast();
    byRateCut();
    topAtMost();
    own();
    leastAtLeast();
    putRight();
    putLeastAtLeast();
    putParted();
    more();
    lessCut();
    lessAtLeast();
    both();
    fromZeroOn();
    othersThen();
    tillNoneChanges();
    twentyTurns();
    rests();
    whereHeLives();
    lacks();
    lacksPut();
    Due.end();
  }

  private static void alone(NineLands x, String call, int land, int kind, int want) {
    Due.due(call + ", land " + land + " by kind " + kind, x.alone(land, kind), want);
    x.kind(land, kind);
    Due.due(call + ", owed by " + land + " by kind " + kind, x.owed(land), want);
  }

  private static void needs() {
    Due.section("RIGHT, if MONTHS are NEEDS or more");
    NineLands x = Due.life("0b0-100*10", "1b100-150*10");
    x.pact(0, 1, true);
    for (int needs = 99; needs <= 101; needs++) {
      x.law(0, 0, needs);
      alone(x, "needs " + needs, 0, 0, needs > 100 ? 0 : 100);
      alone(x, "needs " + needs, 0, 1, needs > 100 ? 0 : 100);
      alone(x, "needs " + needs, 0, 4, needs > 100 ? 0 : 100);
    }
    for (int needs = 149; needs <= 151; needs++) {
      x.law(0, 0, needs);
      alone(x, "put together, needs " + needs, 0, 2, needs > 150 ? 0 : 100);
      alone(x, "put together, needs " + needs, 0, 3, needs > 150 ? 0 : 100);
      alone(x, "put together, needs " + needs, 0, 5, needs > 150 ? 0 : 100);
    }
    NineLands all = Due.life("0b0-900*1");
    all.law(0, 0, 900);
    alone(all, "needs all", 0, 0, 90);
    NineLands most = Due.life("0b0-899*1");
    most.law(0, 0, 900);
    alone(most, "lacks one of all", 0, 0, 0);
    NineLands first = Due.life("0b0-120*1", "1b0-119*1");
    alone(first, "120 at first", 0, 0, 12);
    alone(first, "119 at first", 1, 0, 0);
  }

  private static void oneAtLeast() {
    Due.section("and one at least");
    NineLands x = Due.life("1b0-1*0");
    for (int land = 0; land < 3; land++) {
      for (int needs = 0; needs <= 1; needs++) {
        x.law(land, 0, needs);
        x.law(land, 3, 500);
        for (int kind = 0; kind < 6; kind++) {
          alone(x, "needs " + needs, land, kind, land == 1 && kind > 0 ? 500 : 0);
        }
      }
    }
    x.pact(0, 1, true);
    // Land 0 has a right put together, but no month of its own that it could pay for.
    for (int kind = 0; kind < 6; kind++) {
      alone(x, "no month of its own", 0, kind, 0);
    }
    Due.due("put together", x.counts(0, 2), 1);
  }

  private static void byRateCut() {
    Due.section("BY RATE: RATE times all PAYS by 100, cut");
    int[][] rows = {{0, 99, 0}, {9, 10, 0}, {10, 10, 1}, {11, 10, 1}, {19, 10, 1}, {20, 10, 2}, {999, 99, 989},
        {100, 99, 99}, {101, 99, 99}, {102, 99, 100}, {999, 0, 0}, {99, 1, 0}, {100, 1, 1}};
    for (int[] row : rows) {
      NineLands x = Due.life("0b0-1*" + row[0]);
      x.law(0, 0, 1);
      x.law(0, 2, row[1]);
      for (int kind = 0; kind < 6; kind++) {
        alone(x, "pay " + row[0] + ", rate " + row[1], 0, kind, row[2]);
      }
    }
    NineLands all = Due.life("0b0-2*5", "0b2-4*2");
    all.law(0, 0, 1);
    // Of 5, 5, 2 and 2 together one; of each alone none.
    alone(all, "all pays, then cut", 0, 0, 1);
  }

  private static void topAtMost() {
    Due.section("TOP at most");
    NineLands x = Due.life("0b0-100*10");
    x.law(0, 0, 100);
    for (int top = 99; top <= 101; top++) {
      x.law(0, 4, top);
      for (int kind = 0; kind < 6; kind++) {
        alone(x, "top " + top, 0, kind, Math.min(top, 100));
      }
    }
    x.law(0, 3, 60);
    x.law(0, 4, 50);
    alone(x, "its own under its least", 0, 0, 50);
    x.law(0, 4, 0);
    alone(x, "top 0", 0, 0, 0);
    NineLands most = Due.life("0b0-900*999");
    most.law(0, 2, 99);
    alone(most, "9999 at first", 0, 0, 9999);
    NineLands below = Due.life("0b0-900*111");
    alone(below, "under it", 0, 0, 9990);
    NineLands put = Due.life("0b0-100*10", "1b100-200*10");
    put.pact(0, 1, true);
    for (int top = 199; top <= 201; top++) {
      put.law(0, 4, top);
      alone(put, "top " + top + " of all put together, then parted", 0, 2, top < 200 ? 99 : 100);
    }
  }

  private static void own() {
    Due.section("OWN: with a RIGHT by its own MONTHS BY RATE of these, else 0");
    NineLands x = Due.life("0b0-100*10", "1b100-200*90");
    x.pact(0, 1, true);
    alone(x, "put together does not matter to a right", 0, 0, 0);
    x.law(0, 0, 100);
    alone(x, "of its own", 0, 0, 100);
    x.law(0, 3, 5000);
    alone(x, "the least does not matter", 0, 0, 100);
    x.show(0, false);
    alone(x, "no month", 0, 0, 0);
  }

  private static void leastAtLeast() {
    Due.section("LEAST: OWN, with a RIGHT LEAST (the law) at least");
    NineLands x = Due.life("0b0-100*10");
    x.law(0, 0, 100);
    for (int least = 99; least <= 101; least++) {
      x.law(0, 3, least);
      alone(x, "least " + least, 0, 1, Math.max(least, 100));
    }
    x.law(0, 4, 50);
    alone(x, "above top", 0, 1, 101);
    x.law(0, 3, 49);
    alone(x, "under top", 0, 1, 50);
    x.law(0, 3, 9999);
    alone(x, "most", 0, 1, 9999);
    x.law(0, 0, 101);
    alone(x, "no right", 0, 1, 0);
    NineLands put = Due.life("0b0-100*10", "1b100-200*10");
    put.pact(0, 1, true);
    put.law(0, 3, 300);
    alone(put, "a right put together is none", 0, 1, 0);
  }

  private static void putRight() {
    Due.section("PUT: with a RIGHT by MONTHS PUT TOGETHER; else 0");
    NineLands x = Due.life("0b0-50*10", "1b40-110*10");
    alone(x, "without a pact", 0, 2, 0);
    x.pact(0, 1, true);
    x.law(0, 0, 110);
    alone(x, "110 of 110", 0, 2, 50);
    x.law(0, 0, 111);
    alone(x, "110 of 111", 0, 2, 0);
    x.law(0, 3, 1100);
    alone(x, "110 of 111, the least does not help", 0, 2, 0);
    x.law(0, 0, 110);
    alone(x, "110 of 110, the least parted", 0, 2, 500);
    x.law(1, 0, 900);
    alone(x, "the other's needs do not matter", 0, 2, 500);
  }

  private static void putLeastAtLeast() {
    Due.section("PUT: BY RATE of all these (LEAST at least)");
    NineLands x = Due.life("0b0-100*10", "1b100-200*10");
    x.pact(0, 1, true);
    int[][] rows = {{0, 100}, {198, 100}, {200, 100}, {201, 100}, {202, 101}, {9999, 4999}};
    for (int[] row : rows) {
      x.law(0, 3, row[0]);
      alone(x, "least " + row[0], 0, 2, row[1]);
    }
    x.law(0, 4, 20);
    alone(x, "above top", 0, 2, 4999);
    x.law(0, 3, 0);
    alone(x, "top, then parted", 0, 2, 10);
    x.law(1, 3, 9999);
    x.law(1, 4, 0);
    x.law(1, 2, 99);
    alone(x, "by its own law alone", 0, 2, 10);
  }

  private static void putParted() {
    Due.section("PUT: times its own MONTHS by all, cut");
    NineLands x = Due.life("0b0-1*0", "1b1-3*0");
    x.pact(0, 1, true);
    x.law(0, 0, 3);
    x.law(1, 0, 3);
    int[][] rows = {{2, 0, 1}, {3, 1, 2}, {4, 1, 2}, {5, 1, 3}, {6, 2, 4}, {9999, 3333, 6666}, {1, 0, 0}};
    for (int[] row : rows) {
      x.law(0, 3, row[0]);
      x.law(1, 3, row[0]);
      alone(x, "a third of " + row[0], 0, 2, row[1]);
      alone(x, "two of " + row[0], 1, 2, row[2]);
    }
    x.show(1, false);
    x.law(0, 0, 1);
    x.law(0, 3, 7);
    alone(x, "all of it", 0, 2, 7);
    x.show(1, true);
    x.show(0, false);
    alone(x, "none of it", 0, 2, 0);
    x.show(1, false);
    x.law(0, 0, 0);
    alone(x, "none of none", 0, 2, 0);
  }

  private static void more() {
    Due.section("MORE: the greater of PUT and LEAST");
    NineLands x = Due.life("0b0-100*10", "1b100-200*30");
    x.pact(0, 1, true);
    x.law(0, 0, 100);
    // Put together 400, half of it 200; its own 100.
    alone(x, "put", 0, 3, 200);
    x.law(0, 3, 199);
    alone(x, "put by one", 0, 3, 200);
    x.law(0, 3, 200);
    alone(x, "both alike", 0, 3, 200);
    x.law(0, 3, 201);
    alone(x, "least by one", 0, 3, 201);
    x.law(0, 0, 101);
    alone(x, "no right of its own", 0, 3, 200);
    x.law(0, 0, 201);
    alone(x, "no right", 0, 3, 0);
    NineLands own = Due.life("0b0-100*30", "1b100-200*10");
    own.pact(0, 1, true);
    own.law(0, 0, 100);
    alone(own, "its own by rate", 0, 3, 300);
  }

  /** Land 5 owes by a kind that takes off; the others owe these sums. */
  private static NineLands takingOff(int kind, int least, int off, int... others) {
    NineLands x = Due.owing(others);
    Due.spell(x, "5b10-11*0");
    x.law(5, 0, 1);
    x.law(5, 3, least);
    x.law(5, 5, off);
    x.kind(5, kind);
    return x;
  }

  private static void lessCut() {
    Due.section("LESS: OFF hundredths (cut) of what all other LANDS owe together");
    for (int kind = 4; kind <= 5; kind++) {
      Due.due("1 of 99", takingOff(kind, 500, 1, 99).owed(5), 500);
      Due.due("1 of 100", takingOff(kind, 500, 1, 100).owed(5), 499);
      Due.due("1 of 199", takingOff(kind, 500, 1, 199).owed(5), 499);
      Due.due("1 of 200", takingOff(kind, 500, 1, 200).owed(5), 498);
      Due.due("of all together, cut once", takingOff(kind, 500, 1, 50, 50, 99, 0, 1).owed(5), 498);
      Due.due("0 hundredths", takingOff(kind, 500, 0, 9999).owed(5), 500);
      Due.due("100 hundredths", takingOff(kind, 500, 100, 77).owed(5), 423);
      Due.due("99 hundredths", takingOff(kind, 500, 99, 77).owed(5), 424);
      Due.due("nobody owes", takingOff(kind, 500, 100).owed(5), 500);
      NineLands alone = takingOff(kind, 500, 100, 77);
      Due.due("alone", alone.alone(5, kind), 500);
      alone.law(0, 5, 100);
      Due.due("the others' law does not matter", alone.owed(5), 423);
    }
    for (int kind = 0; kind < 4; kind++) {
      Due.due("kind " + kind + " takes nothing off", takingOff(kind, 500, 100, 77).owed(5), kind == 0 ? 0 : 500);
    }
  }

  private static void lessAtLeast() {
    Due.section("LESS: 0 at least");
    for (int kind = 4; kind <= 5; kind++) {
      Due.due("1 stays", takingOff(kind, 500, 100, 400, 99).owed(5), 1);
      Due.due("0 stays", takingOff(kind, 500, 100, 400, 100).owed(5), 0);
      Due.due("1 too much", takingOff(kind, 500, 100, 400, 101).owed(5), 0);
      Due.due("far too much", takingOff(kind, 500, 100, 9999, 9999, 9999, 9999, 9999).owed(5), 0);
      Due.due("nothing is due", takingOff(kind, 0, 100, 1).owed(5), 0);
      Due.due("all then", takingOff(kind, 500, 100, 400, 101).all(), 501);
    }
  }

  private static void both() {
    Due.section("BOTH: MORE, less likewise");
    NineLands x = Due.life("0b0-100*10", "1b100-200*30", "2b0-50*10");
    x.pact(0, 1, true);
    x.law(0, 0, 100);
    x.law(1, 0, 101);
    x.law(2, 0, 50);
    x.law(0, 5, 50);
    // By put 200, of its own 100; 50 hundredths of 50 are 25.
    x.kind(0, 4);
    Due.due("less", x.owed(0), 75);
    x.kind(0, 5);
    Due.due("both", x.owed(0), 175);
    x.law(0, 3, 300);
    Due.due("both by its least", x.owed(0), 275);
    Due.due("alone", x.alone(0, 5), 300);
    x.law(0, 0, 101);
    Due.due("both by put alone", x.owed(0), 175);
    x.kind(0, 4);
    Due.due("less without a right", x.owed(0), 0);
  }

  /** Lands that owe these sums less all that the others owe. */
  private static NineLands ring(int... sums) {
    NineLands x = Due.owing(sums);
    for (int land = 0; land < sums.length; land++) {
      x.law(land, 5, 100);
      x.kind(land, 4);
    }
    return x;
  }

  private static void owed(NineLands x, String call, int rests, int... owed) {
    int all = 0;
    for (int land = 0; land < owed.length; land++) {
      Due.due(call + ": owed " + land, x.owed(land), owed[land]);
      all += owed[land];
    }
    Due.due(call + ": all", x.all(), all);
    Due.due(call + ": rests", x.rests(), rests);
  }

  private static void fromZeroOn() {
    Due.section("OWED: in turn from 0 on");
    owed(ring(500, 500), "alike: the first has all", 1, 500, 0, 0);
    owed(ring(500, 499), "less", 1, 500, 0);
    owed(ring(9, 9, 9, 9, 9, 9), "six", 1, 9, 0, 0, 0, 0, 0);
    owed(ring(0, 500, 500), "the first that owes", 1, 0, 500, 0);
    // Asked again it is reckoned from nothing owed, not from what was owed last.
    NineLands x = ring(500, 500);
    x.kind(0, 0);
    owed(x, "the second alone", 1, 0, 500);
    x.kind(0, 4);
    owed(x, "and both again", 1, 500, 0);
    x.kind(1, 1);
    Due.due("rests(), asked first", x.rests(), 1);
    x.law(1, 3, 510);
    x.kind(1, 4);
    Due.due("rests(), asked first again", x.rests(), 0);
    x.show(1, false);
    Due.due("owed(), asked first", x.owed(0), 500);
    x.show(0, false);
    Due.due("lives(), asked first", x.lives(1), 0);
    x.show(1, true);
    Due.due("where(), asked first", x.where(), 0);
    Due.due("when(), asked first", x.when(1, 780), 780);
    x.law(1, 3, 77);
    Due.due("asks(), asked first", x.asks(1, 780, 780), 77);
  }

  private static void othersThen() {
    Due.section("each LAND by numbers gets what its KIND says by what others owe then");
    NineLands x = ring(300, 200, 250);
    x.law(0, 5, 50);
    x.law(1, 5, 10);
    x.law(2, 5, 20);
    // 300, 170, 156; then 137, 171, 189; 120, 170, 192; 119, 169, 193; 119, 169, 193.
    owed(x, "three", 1, 119, 169, 193);
    NineLands behind = Due.owing(0, 100);
    behind.law(0, 3, 80);
    behind.law(0, 5, 30);
    behind.kind(0, 4);
    // In the first turn nobody owes yet when land 0 is asked.
    owed(behind, "what one behind owes", 1, 50, 100);
  }

  private static void tillNoneChanges() {
    Due.section("till a turn changes none");
    owed(new NineLands(), "nothing", 1, 0, 0, 0, 0, 0, 0);
    owed(Due.owing(7, 8, 9), "nothing taken off", 1, 7, 8, 9);
    owed(ring(1000, 1500), "2 turns and one more", 1, 0, 1500);
    owed(ring(1000, 1001, 1), "it goes on", 0, 981, 20, 0);
  }

  private static void twentyTurns() {
    Due.section("or 20 turns are made (then as they are)");
    // Land 1 gains by each turn what it has more than land 0.
    owed(ring(1000, 1010), "after 20", 0, 810, 200);
    owed(ring(1000, 1001), "after 20 by one", 0, 981, 20);
    owed(ring(1000, 1052), "the 20th goes to 12", 0, 12, 1040);
  }

  private static void rests() {
    Due.section("RESTS: whether it does so");
    // Land 0 has nothing from turn 18, 19 and 20 on; it rests, if a turn behind that one is made.
    owed(ring(1000, 1056), "the 20th changes none", 1, 0, 1056);
    owed(ring(1000, 1053), "the 20th is the last that changes one", 0, 0, 1053);
    owed(ring(1000, 1052), "a 21st would change one", 0, 12, 1040);
    owed(ring(1000, 1060), "the 19th changes none", 1, 0, 1060);
  }

  private static void whereHeLives() {
    Due.section("(Where he lives does not matter here.)");
    NineLands x = Due.owing(300, 400);
    x.kind(1, 4);
    x.law(1, 5, 50);
    owed(x, "nothing is taken off", 1, 300, 250);
    x.law(0, 6, 100);
    x.law(1, 6, 100);
    x.law(5, 6, 100);
    x.lives(5);
    owed(x, "away does not matter", 1, 300, 250);
  }

  private static void lacks() {
    Due.section("LACKS: how many MONTHS more a LAND would need for a RIGHT of its own; 0 it has one");
    NineLands x = Due.life("0b0-100*10", "1b0-1*5!");
    int[][] rows = {{102, 2}, {101, 1}, {100, 0}, {99, 0}, {0, 0}, {900, 800}};
    for (int[] row : rows) {
      x.law(0, 0, row[0]);
      Due.due("needs " + row[0], x.lacks(0, false), row[1]);
      Due.due("put, no pacts, needs " + row[0], x.lacks(0, true), row[1]);
      x.law(1, 0, row[0]);
      Due.due("no month counts, needs " + row[0], x.lacks(1, false), Math.max(1, row[0]));
      Due.due("put, no month counts, needs " + row[0], x.lacks(1, true), Math.max(1, row[0]));
    }
    x.law(2, 0, 1);
    Due.due("needs 1", x.lacks(2, false), 1);
    Due.due("120 at first", x.lacks(3, false), 120);
  }

  private static void lacksPut() {
    Due.section("(PUT: put together)");
    NineLands x = Due.life("0b0-60*10", "1b50-119*10");
    x.pact(0, 1, true);
    Due.due("own", x.lacks(0, false), 60);
    Due.due("put", x.lacks(0, true), 1);
    x.law(0, 0, 119);
    Due.due("put: it has one", x.lacks(0, true), 0);
    Due.due("own still", x.lacks(0, false), 59);
    x.law(0, 0, 118);
    Due.due("put: it has more", x.lacks(0, true), 0);
    NineLands other = Due.life("1b0-1*0");
    other.pact(0, 1, true);
    other.law(0, 0, 0);
    Due.due("another's month is one put together", other.lacks(0, true), 0);
    Due.due("but none of its own", other.lacks(0, false), 1);
  }
}
