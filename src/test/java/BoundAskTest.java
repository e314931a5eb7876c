/**
 * The bounds that the document's Terms name in their third part: asking, living, months and years more, proofs,
 * judging, images. Each section is a sentence, in its own words, on both sides of its bound.
 */
public final class BoundAskTest {
  private static final int SUM = 1000000000;

  public static void main(String[] args) {
    ageOrLater();
    to900();
    each12Months();
    laterCut();
    lastMonthToo();
    to1200();
    whenMonths();
    when900();
    whenMost();
    whenNone();
    living();
    whereLeast();
    edgeMonths();
    edgeBench();
    edgeBehind();
    edge900();
    edgeMore();
    edgePut();
    edgeOf20();
    hangsLeast();
    hangsLess();
    hangsFirst();
    yearOf12();
    year900();
    yearLand();
    worthLess();
    proofs();
    rowOfSums();
    judged();
    othersOfTheRow();
    tooShort();
    theImage();
    tapeAndRefusalsStay();
    Due.end();
  }

  private static void ageOrLater() {
    Due.section("ASKING in a LAND at a MONTH of age (its AGE or later)");
    NineLands x = Due.owing(10, 20);
    Due.due("780 at first", x.asks(0, 780, 780), 10);
    Due.due("779 at first", x.asks(0, 779, 780), -4);
    x.law(0, 1, 500);
    Due.due("its AGE", x.asks(0, 500, 500), 10);
    Due.due("below its AGE", x.asks(0, 499, 500), -4);
    Due.due("later", x.asks(0, 501, 501), 10);
    Due.due("another's AGE", x.asks(1, 500, 500), -4);
    x.law(0, 1, 0);
    Due.due("AGE 0", x.asks(0, 0, 0), 10);
    Due.due("below 0", x.asks(0, -1, 0), -4);
    x.law(0, 1, 900);
    Due.due("AGE 900", x.asks(0, 900, 900), 10);
    Due.due("below AGE 900", x.asks(0, 899, 900), -4);
  }

  private static void to900() {
    Due.section("ASKING to 900");
    NineLands x = Due.owing(10);
    Due.due("899", x.asks(0, 899, 900), 20);
    Due.due("900", x.asks(0, 900, 900), 10);
    Due.due("901", x.asks(0, 901, 901), -6);
    x.law(0, 1, 900);
    Due.due("901 behind AGE 900", x.asks(0, 901, 901), -6);
  }

  private static void each12Months() {
    Due.section("for each 12 MONTHS later than AGE LATER hundredths of it more");
    NineLands x = Due.owing(1000, 1000);
    x.law(0, 7, 7);
    x.law(0, 1, 600);
    int[][] rows = {{0, 1000}, {11, 1000}, {12, 1070}, {13, 1070}, {23, 1070}, {24, 1140}, {35, 1140}, {36, 1210},
        {119, 1630}, {120, 1700}, {131, 1700}, {132, 1770}, {299, 2680}, {300, 2750}};
    for (int[] row : rows) {
      Due.due(row[0] + " later", x.asks(0, 600 + row[0], 600 + row[0]), row[1]);
    }
    Due.due("by its own law", x.asks(1, 900, 900), 1000);
    x.law(0, 7, 0);
    Due.due("0 hundredths", x.asks(0, 900, 900), 1000);
    x.law(0, 7, 50);
    x.law(0, 1, 0);
    Due.due("75 times 50", x.asks(0, 900, 900), 38500);
    x.law(0, 1, 1);
    Due.due("74 times 50", x.asks(0, 900, 900), 38000);
  }

  private static void laterCut() {
    Due.section("(then cut)");
    int[][] rows = {{99, 99}, {100, 101}, {199, 200}, {200, 202}, {1, 1}};
    for (int[] row : rows) {
      NineLands x = Due.owing(row[0]);
      x.law(0, 7, 1);
      Due.due(row[0] + " and one hundredth", x.asks(0, 792, 792), row[1]);
      Due.due(row[0] + ": cut before months are told together", x.asks(0, 792, 801), 10 * row[1]);
    }
    NineLands x = Due.owing(150);
    x.law(0, 7, 1);
    // 1.5 and 1.5 are 3, cut together.
    Due.due("two hundredths of 150", x.asks(0, 804, 804), 153);
  }

  private static void lastMonthToo() {
    Due.section("by told last MONTH of life (that one, too): all that is PAID from then on, a sum each MONTH");
    NineLands x = Due.owing(10);
    Due.due("dies in the month", x.asks(0, 800, 800), 10);
    Due.due("dies in the next", x.asks(0, 800, 801), 20);
    Due.due("died before", x.asks(0, 800, 799), 0);
    Due.due("died long before", x.asks(0, 800, 0), 0);
    Due.due("12 months", x.asks(0, 800, 811), 120);
    Due.due("nothing owed", x.asks(1, 800, 1200), 0);
  }

  private static void to1200() {
    Due.section("last MONTH to 1200");
    NineLands x = Due.owing(10);
    Due.due("1199", x.asks(0, 900, 1199), 3000);
    Due.due("1200", x.asks(0, 900, 1200), 3010);
    Due.due("1201", x.asks(0, 900, 1201), -6);
    Due.due("0", x.asks(0, 900, 0), 0);
    Due.due("-1", x.asks(0, 900, -1), -4);
    Due.due("when by 1200", x.when(0, 1200), 780);
    Due.due("when by 1201", x.when(0, 1201), -6);
    Due.due("when by 0", x.when(0, 0), -9);
    Due.due("when by -1", x.when(0, -1), -4);
    NineLands most = Due.owing(9999);
    most.law(0, 1, 0);
    most.law(0, 7, 50);
    Due.due("the most that is paid", most.asks(0, 900, 1200), 384961 * 301);
    Due.due("from birth", most.asks(0, 0, 1200), 9999 * 1201);
  }

  private static void whenMonths() {
    Due.section("WHEN: the MONTH of AGE, and 12, 24, .. 120 later");
    NineLands x = Due.owing(1000);
    x.law(0, 1, 600);
    Due.due("nothing more for later: of AGE", x.when(0, 1200), 600);
    x.law(0, 7, 50);
    // Half of it more for each year: who lives 24 months for each year that he waits, and 23, waits best so.
    for (int year = 0; year <= 13; year++) {
      Due.due("lives " + year + " times 24 months", x.when(0, 623 + year * 24), 600 + Math.min(10, year) * 12);
    }
    x.law(0, 1, 300);
    Due.due("120 later", x.when(0, 1200), 420);
    Due.due("132 later would bring more", x.asks(0, 432, 1200) > x.asks(0, 420, 1200) ? 1 : 0, 1);
    x.law(0, 1, 0);
    Due.due("of AGE 0", x.when(0, 23), 0);
    Due.due("120 later than 0", x.when(0, 1200), 120);
  }

  private static void when900() {
    Due.section("WHEN (900 at most)");
    NineLands x = Due.owing(1000);
    x.law(0, 7, 50);
    int[][] rows = {{780, 900}, {781, 889}, {792, 900}, {888, 900}, {889, 889}, {900, 900}, {779, 899}, {878, 890}};
    for (int[] row : rows) {
      x.law(0, 1, row[0]);
      Due.due("from AGE " + row[0], x.when(0, 1200), row[1]);
    }
  }

  private static void whenMost() {
    Due.section("WHEN: that brings most, of several the earliest");
    NineLands x = Due.owing(12);
    x.law(0, 7, 50);
    // 12 for 36 months are 432, and so are 18 for 24.
    Due.due("two alike", x.when(0, 815), 780);
    Due.due("alike", x.asks(0, 792, 815), x.asks(0, 780, 815));
    Due.due("one more, the second", x.when(0, 816), 792);
    Due.due("one less, the first", x.when(0, 814), 780);
    NineLands one = Due.owing(1);
    one.law(0, 7, 50);
    // Cut: 1 for the first two years, then 2.
    Due.due("what is cut", one.when(0, 780 + 46), 780);
    Due.due("what is cut, the third", one.when(0, 780 + 48), 804);
  }

  private static void whenNone() {
    Due.section("WHEN: -9 nothing is OWED, or none brings anything");
    NineLands x = Due.owing(1, 0);
    Due.due("one is owed", x.when(0, 780), 780);
    Due.due("nothing is owed", x.when(1, 1200), -9);
    Due.due("he dies before", x.when(0, 779), -9);
    Due.due("no months", x.when(2, 1200), -9);
    x.law(0, 1, 900);
    Due.due("AGE 900", x.when(0, 900), 900);
    Due.due("AGE 900, dead before", x.when(0, 899), -9);
    Due.due("no refusal", x.count(11) + x.count(12) + x.count(13) + x.count(14) + x.count(16), 0);
  }

  private static void living() {
    Due.section("LIVING in a LAND: all that LANDS owe, of each other one AWAY hundredths (its own law; cut) less");
    int[][] rows = {{99, 1, 99}, {100, 1, 99}, {101, 1, 100}, {199, 1, 198}, {200, 1, 198}, {77, 100, 0}, {77, 0, 77},
        {77, 99, 1}, {1, 99, 1}, {1, 100, 0}, {3, 50, 2}};
    for (int[] row : rows) {
      NineLands x = Due.owing(row[0], 1000);
      x.law(0, 6, row[1]);
      Due.due(row[0] + " away by " + row[1], x.lives(1), 1000 + row[2]);
      Due.due(row[0] + " from a land that owes nothing", x.lives(5), 1000 + row[2]);
      Due.due(row[0] + " at home", x.lives(0), 1000 + row[0]);
    }
    NineLands two = Due.owing(50, 50, 7);
    two.law(0, 6, 1);
    two.law(1, 6, 1);
    Due.due("each cut for itself", two.lives(2), 107);
    two.law(2, 6, 100);
    Due.due("the law of where he lives does not matter", two.lives(2), 107);
  }

  private static void whereLeast() {
    Due.section("WHERE: the LAND in which that is most, of several the least");
    NineLands x = Due.owing(100, 100, 100);
    Due.due("all alike", x.where(), 0);
    x.law(1, 6, 10);
    x.law(2, 6, 10);
    Due.due("two alike", x.where(), 1);
    x.law(2, 6, 11);
    Due.due("one more", x.where(), 2);
    x.law(0, 6, 11);
    Due.due("the least of two", x.where(), 0);
    Due.due("no spells", new NineLands().where(), 0);
    NineLands last = Due.owing(0, 0, 0, 0, 0, 5);
    Due.due("nothing less away", last.where(), 0);
    last.law(5, 6, 20);
    Due.due("the last", last.where(), 5);
    last.law(5, 6, 19);
    Due.due("cut to nothing", last.where(), 0);
  }

  private static void edgeMonths() {
    Due.section("EDGE: the fewest MONTHS more (1 .. 120)");
    NineLands x = new NineLands();
    x.law(0, 3, 5);
    x.kind(0, 1);
    int[][] rows = {{0, 1}, {1, 1}, {2, 2}, {119, 119}, {120, 120}, {121, -9}, {900, -9}};
    for (int[] row : rows) {
      x.law(0, 0, row[0]);
      Due.due("needs " + row[0], x.edge(0, 0), row[1]);
    }
    // 10 hundredths of the pays of all months more must make 1.
    NineLands paid = Due.life("0b0-120*1");
    int[][] pays = {{0, -9}, {1, 10}, {2, 5}, {3, 4}, {5, 2}, {9, 2}, {10, 1}, {999, 1}};
    for (int[] row : pays) {
      Due.due("pay " + row[0], paid.edge(0, row[0]), row[1]);
    }
  }

  private static void edgeBench() {
    Due.section("EDGE: a SPELL of bench work, PAY told, in a LAND");
    NineLands x = Due.life("0b0-100*10", "1s0-100*10");
    for (int works = 0; works < 16; works++) {
      x.law(1, 8, works);
      int lacks = x.lacks(1, false);
      Due.due("works " + works, x.edge(1, 10), works >= 8 ? lacks : -9);
    }
    x.law(1, 8, 15);
    Due.due("in that land alone", x.edge(2, 10), 120);
    Due.due("pay 999", x.edge(0, 999), 20);
    Due.due("pay 1000", x.edge(0, 1000), -6);
    Due.due("pay 0", x.edge(0, 0), 20);
    Due.due("pay -1", x.edge(0, -1), -4);
    Due.due("nothing is told by it", x.count(0), 2);
    Due.due("nothing counts by it", x.counts(0, 0), 100);
  }

  private static void edgeBehind() {
    Due.section("EDGE: from the MONTH on behind all SPELLS (SHOWN or not)");
    NineLands x = Due.life("0b0-100*10", "3s200-800*10!");
    Due.due("100 are left", x.edge(0, 0), 20);
    // Behind a spell of more pay a month held by both would bring nothing; behind all it brings its own.
    x.law(0, 0, 100);
    Due.due("its own pay", x.edge(0, 10), 1);
    x.law(0, 0, 200);
    Due.due("100 of 100", x.edge(0, 0), 100);
    x.show(1, false);
    Due.due("not shown, 100 of 100", x.edge(0, 0), 100);
    x.law(0, 0, 201);
    Due.due("not shown, 101 of 100", x.edge(0, 0), -9);
    x.show(1, true);
    Due.due("101 of 100", x.edge(0, 0), -9);
    Due.due("without it", Due.life("0b0-100*10").edge(1, 10), 120);
  }

  private static void edge900() {
    Due.section("EDGE: till 900 at most");
    NineLands x = Due.life("0b700-780*10");
    Due.due("120 are left", x.edge(1, 1), 120);
    Due.spell(x, "0b780-781*10");
    Due.due("119 are left", x.edge(1, 1), -9);
    x.law(1, 0, 119);
    Due.due("119 of 119", x.edge(1, 1), 119);
    Due.spell(x, "0b800-899*10");
    x.law(1, 0, 1);
    x.law(1, 2, 99);
    Due.due("one is left", x.edge(1, 2), 1);
    Due.due("one is left and brings nothing", x.edge(1, 1), -9);
    Due.spell(x, "5f899-900*1!");
    Due.due("none is left", x.edge(1, 999), -9);
    x.show(3, false);
    Due.due("none is left, not shown", x.edge(1, 999), -9);
    Due.due("no refusal", x.count(13), 0);
  }

  private static void edgeMore() {
    Due.section("EDGE: after which it OWES more than now; -9 none");
    NineLands x = Due.life("0b0-100*10");
    x.law(0, 0, 50);
    x.law(0, 4, 100);
    Due.due("as much as now", x.edge(0, 999), -9);
    x.law(0, 4, 101);
    Due.due("one more", x.edge(0, 10), 1);
    x.law(0, 3, 110);
    x.law(0, 4, 9999);
    x.kind(0, 1);
    Due.due("first above its least", x.edge(0, 10), 11);
    // All that one owes more another's kind takes off: the land itself must owe more.
    NineLands ring = Due.owing(100, 100);
    ring.kind(1, 4);
    ring.law(1, 5, 100);
    ring.law(0, 2, 99);
    Due.due("the one", ring.edge(0, 999), 1);
    ring.law(1, 2, 50);
    // 1000 hundredths of 50 and so on: above 200 something stays behind what the first owes.
    Due.due("the other", ring.edge(1, 100), 3);
    ring.kind(0, 4);
    ring.law(0, 5, 100);
    Due.due("in a ring the second owes nothing now", ring.owed(1), 0);
    Due.due("and more after", ring.edge(1, 999), 1);
  }

  private static void edgePut() {
    Due.section("EDGE: MONTHS more are PUT TOGETHER, too");
    NineLands x = Due.life("0s0-10*10", "1b10-30*40");
    x.pact(0, 1, true);
    x.kind(1, 2);
    x.law(1, 0, 31);
    Due.due("it lacks one", x.owed(1), 0);
    Due.due("the right comes", x.edge(1, 0), 1);
    x.law(1, 0, 32);
    Due.due("it lacks two", x.edge(1, 0), 2);
    x.law(1, 0, 30);
    // 10 hundredths of 900 are 90, two thirds of it 60; with pays of 1 90 * 21 / 31 is 60, and 90 * 22 / 32 61.
    Due.due("now", x.owed(1), 60);
    Due.due("pays of 1", x.edge(1, 1), 2);
    // 940 by rate 94, of it 21 of 31 are 63.
    Due.due("pays of 40", x.edge(1, 40), 1);
    NineLands other = Due.life("0s0-10*100", "1b10-30*100");
    other.pact(0, 1, true);
    other.law(1, 0, 40);
    other.kind(1, 2);
    // Months in land 0 count for land 1, but it is land 0 that must owe more.
    Due.due("the other's right", other.edge(0, 0), 110);
    Due.due("its own", other.edge(1, 0), 10);
  }

  private static void edgeOf20() {
    Due.section("EDGE and YEAR: -3 20 SPELLS");
    NineLands x = new NineLands();
    for (int spells = 1; spells <= 19; spells++) {
      Due.spell(x, "0b0-1*1");
      Due.due("edge at " + spells, x.edge(0, 10), 119);
      Due.due("year at " + spells, x.year(0, 0), 0);
      Due.due("worth at " + spells, x.year(999, 1), 0);
    }
    x.image();
    Due.spell(x, "0b0-1*1");
    Due.due("edge at 20", x.edge(0, 10), -3);
    Due.due("year at 20", x.year(0, 0), SUM + 3);
    Due.due("worth at 20", x.year(999, 1), SUM + 3);
    x.show(19, false);
    Due.due("edge at 20, not shown", x.edge(0, 10), -3);
    Due.due("year at 20, not shown", x.year(0, 0), SUM + 3);
    x.on();
    Due.due("edge at 19 again", x.edge(0, 10), 119);
    Due.due("refusals", x.count(13), 5);
  }

  private static void hangsLeast() {
    Due.section("HANGS: the SPELL without which all LANDS owe least together");
    NineLands x = Due.owing(30, 50, 40);
    Due.due("the most owed", x.hangs(), 1);
    x.law(2, 3, 51);
    Due.due("by one", x.hangs(), 2);
    x.show(2, false);
    Due.due("not shown", x.hangs(), 1);
    x.show(1, false);
    x.show(0, false);
    Due.due("none is shown", x.hangs(), -9);
    // Of all together: without land 1's spell land 0 owes what it took off.
    NineLands ring = Due.owing(90, 60, 20);
    ring.kind(0, 4);
    ring.law(0, 5, 100);
    Due.due("all", ring.all(), 90);
    // Without 0 80 are owed, without 1 90, without 2 90.
    Due.due("all together", ring.hangs(), 0);
  }

  private static void hangsLess() {
    Due.section("HANGS: less than now; -9 none");
    Due.due("no spells", new NineLands().hangs(), -9);
    NineLands x = Due.life("0b0-120*10", "0s0-120*10");
    Due.due("each as much as now", x.hangs(), -9);
    Due.spell(x, "0f0-120*11");
    Due.due("less by what is paid more", x.hangs(), 2);
    x.law(0, 4, 120);
    Due.due("as much by top", x.hangs(), -9);
    x.law(0, 4, 121);
    Due.due("one less", x.hangs(), 2);
    NineLands ring = Due.owing(100, 60);
    ring.kind(0, 4);
    ring.law(0, 5, 100);
    Due.due("all", ring.all(), 100);
    Due.due("of one 60, of the other 100", ring.hangs(), 0);
    // Without the third half of the least is not parted off: all owe more.
    NineLands more = Due.life("0b0-12*0", "0s0-12*0", "1b12-24*0");
    more.law(0, 0, 12);
    more.law(0, 3, 100);
    more.kind(0, 2);
    more.pact(0, 1, true);
    Due.due("half", more.all(), 50);
    Due.due("as much as now, or more", more.hangs(), -9);
    more.show(1, false);
    Due.due("the right", more.hangs(), 0);
    Due.due("nothing owed", Due.life("0b0-5*1").hangs(), -9);
  }

  private static void hangsFirst() {
    Due.section("HANGS: of several the first");
    Due.due("two alike", Due.owing(20, 30, 30).hangs(), 1);
    Due.due("all alike", Due.owing(30, 30, 30).hangs(), 0);
    NineLands x = Due.life("0b0-60*10", "0b60-120*10");
    Due.due("each makes the right", x.hangs(), 0);
    x.show(0, false);
    Due.due("nothing is owed now", x.hangs(), -9);
  }

  private static void yearOf12() {
    Due.section("A YEAR more: a SPELL of 12 MONTHS of bench work, PAY told, behind all SPELLS");
    NineLands x = Due.life("0b0-108*10", "1s0-107*10");
    Due.due("the right comes in 0", x.year(0, 0), 0);
    Due.due("worth in 0", x.year(0, 1), 108);
    x.law(0, 0, 121);
    Due.due("one lacks", x.year(0, 1), 0);
    x.law(1, 0, 119);
    Due.due("the right comes in 1", x.year(0, 0), 1);
    Due.due("worth in 1", x.year(0, 1), 107);
    x.law(1, 8, 7);
    Due.due("bench work must count", x.year(0, 1), 0);
    NineLands paid = Due.life("0b0-120*10");
    Due.due("pay 999", paid.year(999, 1), 1198);
    Due.due("pay 1000", paid.year(1000, 1), SUM + 6);
    Due.due("pay 0", paid.year(0, 1), 0);
    Due.due("pay -1", paid.year(-1, 1), SUM + 4);
    Due.due("pay 1: 12 by rate are 1", paid.year(1, 1), 1);
    Due.due("nothing is told by it", paid.count(5), 120);
    NineLands put = Due.life("4s0-1*0");
    put.law(4, 0, 13);
    put.kind(4, 2);
    Due.due("12 of 100 put together with one of 0, in its own land", put.year(100, 1), 120);
    put.law(4, 0, 14);
    Due.due("13 of 14", put.year(100, 1), 0);
    put.law(4, 0, 13);
    put.pact(4, 5, true);
    put.law(4, 8, 1);
    put.law(4, 2, 13);
    // A year in land 5: 13 hundredths of 12 times 999 are 1558, and one month of 13 is its own.
    Due.due("in the other's land", put.year(999, 0), 5);
    Due.due("a thirteenth of 1558", put.year(999, 1), 119);
  }

  private static void year900() {
    Due.section("A YEAR more (till 900 at most)");
    int[][] rows = {{887, 12}, {888, 12}, {889, 11}, {890, 10}, {898, 2}, {899, 1}};
    for (int[] row : rows) {
      NineLands x = Due.life("5f0-" + row[0] + "*1!");
      x.law(2, 0, 1);
      x.law(2, 2, 50);
      Due.due("behind " + row[0], x.year(100, 1), row[1] * 50);
      Due.due("behind " + row[0] + ": the land", x.year(100, 0), 2);
      x.show(0, false);
      Due.due("behind " + row[0] + ", not shown", x.year(100, 1), row[1] * 50);
    }
    NineLands none = Due.life("5f0-900*1!");
    Due.due("no MONTH is left", none.year(100, 1), SUM + 3);
    none.show(0, false);
    Due.due("no MONTH is left, not shown", none.year(100, 0), SUM + 3);
  }

  private static void yearLand() {
    Due.section("in each LAND: the one in which all owe most together then, of several the least");
    NineLands x = Due.owing(10, 10, 10, 10, 10, 10);
    for (int land = 0; land < 6; land++) {
      x.law(land, 2, 50);
    }
    Due.due("all alike", x.year(100, 0), 0);
    x.law(4, 2, 51);
    Due.due("the fifth", x.year(100, 0), 4);
    x.law(5, 2, 51);
    Due.due("the fifth and the last", x.year(100, 0), 4);
    x.law(5, 2, 52);
    Due.due("the last", x.year(100, 0), 5);
    x.law(5, 2, 51);
    x.law(3, 2, 52);
    Due.due("the fourth", x.year(100, 0), 3);
    Due.due("worth", x.year(100, 1), 12 * 52 - 10);
    Due.due("no spells", new NineLands().year(999, 0), 0);
    Due.due("no spells: worth", new NineLands().year(999, 1), 0);
    // All together: what the last owes more, land 0 takes off.
    x.law(0, 3, 9999);
    x.kind(0, 4);
    x.law(0, 5, 100);
    x.law(3, 2, 50);
    Due.due("nowhere more together", x.year(100, 1), 0);
    Due.due("so the least", x.year(100, 0), 0);
  }

  private static void worthLess() {
    Due.section("WORTH: how much more than now (it may be less)");
    NineLands x = new NineLands();
    for (int land = 0; land < 6; land++) {
      Due.spell(x, land + "b0-12*0");
      x.law(land, 0, 12);
      x.law(land, 3, 100);
      x.kind(land, 2);
      for (int other = 0; other < land; other++) {
        x.pact(land, other, true);
      }
    }
    // Each owes 100 for its 12 of 12; with a year more the others owe 50 for 12 of 24.
    Due.due("now", x.all(), 600);
    Due.due("less", x.year(0, 1), -250);
    x.pact(0, 5, false);
    // Land 0 and land 5 alone do not lose by each other's year.
    Due.due("where less is lost", x.year(0, 0), 0);
    Due.due("less by it", x.year(0, 1), -200);
    x.pact(0, 5, true);
    x.pact(4, 5, false);
    Due.due("of two the least", x.year(0, 0), 4);
    Due.due("as much", Due.life("0b0-120*10").year(0, 1), 0);
    Due.due("more", Due.life("0b0-120*10").year(10, 1), 12);
    Due.due("what 0", x.year(0, 0), 4);
    Due.due("what 2", x.year(0, 2), SUM + 2);
    Due.due("what -1", x.year(0, -1), SUM + 2);
  }

  private static void proofs() {
    Due.section("PROOF of a SPELL that is not SHOWN: how much more all owe, if it is (it may be less)");
    NineLands x = Due.life("0b0-100*10", "0b100-119*10", "0b119-120*10", "1s0-500*9!");
    x.show(2, false);
    x.show(3, false);
    Due.due("a right", x.proof(2), 120);
    Due.due("as much: not paid in", x.proof(3), 0);
    Due.due("it is shown", x.proof(1), SUM + 3);
    Due.due("it is not shown by it", x.spellOf(2, 6), 0);
    x.show(1, false);
    Due.due("it alone", x.proof(2), 0);
    NineLands less = Due.life("0b0-12*0", "1b12-24*0");
    less.law(0, 0, 12);
    less.law(0, 3, 100);
    less.kind(0, 2);
    less.pact(0, 1, true);
    less.show(1, false);
    Due.due("now", less.all(), 100);
    Due.due("less", less.proof(1), -50);
    Due.due("now still", less.all(), 100);
  }

  private static int judge(NineLands x, int... row) {
    for (int sum : row) {
      x.put(sum);
    }
    return x.judge();
  }

  private static void rowOfSums() {
    Due.section("a row of sums (0 .. 9999; 6 at most)");
    NineLands x = new NineLands();
    Due.due("0", x.put(0), 1);
    Due.due("-1", x.put(-1), -4);
    Due.due("9999", x.put(9999), 2);
    Due.due("10000", x.put(10000), -6);
    for (int sums = 3; sums <= 6; sums++) {
      Due.due("sum " + sums, x.put(0), sums);
    }
    Due.due("sum 7", x.put(0), -6);
    Due.due("six still", x.count(4), 6);
    Due.due("the second is not so", x.judge(), 1);
    Due.due("9999 may be so", judge(Due.owing(9999, 0), 9999, 0, 0, 0, 0, 0), -9);
  }

  private static void judged() {
    Due.section("the first LAND for which it is not what its KIND says; -9 all are so");
    int[] owed = {10, 20, 30, 40, 50, 60};
    NineLands x = Due.owing(owed);
    Due.due("all", judge(x, owed), -9);
    for (int land = 0; land < 6; land++) {
      for (int wrong : new int[] {-1, 1}) {
        int[] row = owed.clone();
        row[land] += wrong;
        Due.due(wrong + " in " + land, judge(x, row), land);
        row[5] = 0;
        Due.due(wrong + " in " + land + ", and in 5", judge(x, row), land);
      }
    }
    x.kind(3, 0);
    Due.due("by its kind", judge(x, owed), 3);
    Due.due("by its kind 0", judge(x, 10, 20, 30, 0, 50, 60), -9);
  }

  private static void othersOfTheRow() {
    Due.section("by what others of the row owe (those that it lacks 0)");
    NineLands x = Due.owing(500, 100, 0, 0, 0, 50);
    x.kind(0, 4);
    x.law(0, 5, 50);
    Due.due("as owed", judge(x, 425, 100, 0, 0, 0, 50), -9);
    // Of the row, be it right or not: 50 hundredths of 300.
    Due.due("the others of the row", judge(x, 350, 100, 0, 0, 0, 200), 5);
    Due.due("not as owed", judge(x, 425, 100, 0, 0, 0, 200), 0);
    Due.due("those that it lacks", judge(x, 450, 100), 2);
    Due.due("those that it lacks, as owed", judge(x, 425, 100), 0);
    Due.due("nobody else", judge(x, 500), 1);
    Due.due("its own sum is not taken off", judge(x, 250), 0);
    Due.due("not what was in the row before", judge(x, 475), 0);
    // Two that hold each other: more than one row is so.
    NineLands ring = Due.owing(100, 100);
    for (int land = 0; land < 2; land++) {
      ring.kind(land, 4);
      ring.law(land, 5, 100);
    }
    for (int first = 25; first <= 100; first += 25) {
      Due.due("a row that is so", judge(ring, first, 100 - first, 0, 0, 0, 0), -9);
      Due.due("a row that is not", judge(ring, first, 101 - first, 0, 0, 0, 0), 0);
    }
  }

  private static void tooShort() {
    Due.section("A row too short: the LAND at which it ends");
    int[] owed = {10, 20, 30, 40, 50, 60};
    for (int length = 0; length < 6; length++) {
      NineLands x = Due.owing(owed);
      Due.due("length " + length, judge(x, java.util.Arrays.copyOf(owed, length)), length);
      Due.due("then none", x.count(4), 0);
      Due.due("those that it lacks owe nothing", judge(new NineLands(), new int[length]), length);
      if (length > 0) {
        int[] row = java.util.Arrays.copyOf(owed, length);
        row[length - 1]++;
        Due.due("length " + length + ", the last is not so", judge(x, row), length - 1);
      }
    }
    Due.due("none lacks", judge(new NineLands(), new int[6]), -9);
  }

  private static void theImage() {
    Due.section("THE IMAGE: SPELLS, LAWS, KINDS, PACTS; ON from it all is as then");
    NineLands x = new NineLands();
    Due.due("there is none", x.on(), -3);
    Due.due("of no spells", x.image(), 0);
    Due.spell(x, "0b0-5*1");
    Due.due("on", x.on(), 0);
    Due.due("no spells", x.spellOf(0, 0), -1);
    for (int spell = 0; spell < 20; spell++) {
      Due.spell(x, "1f0-" + (100 + spell) + "*5!");
    }
    x.show(19, false);
    for (int land = 0; land < 6; land++) {
      for (int law = 0; law < 9; law++) {
        x.law(land, law, land + law);
      }
      x.kind(land, (land + 1) % 6);
      x.pact(land, (land + 1) % 6, true);
    }
    Due.due("of 20", x.image(), 20);
    x.show(19, true);
    x.show(0, false);
    for (int land = 0; land < 6; land++) {
      for (int law = 0; law < 9; law++) {
        x.law(land, law, 14 - law);
      }
      x.kind(land, land);
      x.pact(land, (land + 1) % 6, false);
      x.pact(land, (land + 2) % 6, true);
    }
    Due.due("on again", x.on(), 20);
    Due.due("shown", x.count(1), 19);
    Due.due("pacts", x.count(2), 6);
    for (int spell = 0; spell < 20; spell++) {
      Due.due("till of " + spell, x.spellOf(spell, 3), 100 + spell);
      Due.due("shown " + spell, x.spellOf(spell, 6), spell == 19 ? 0 : 1);
    }
    for (int land = 0; land < 6; land++) {
      for (int law = 0; law < 9; law++) {
        Due.due("law " + law + " of " + land, x.law(land, law, 0), land + law);
      }
      Due.due("kind of " + land, x.kind(land, 0), (land + 1) % 6);
      Due.due("pact of " + land, x.pact((land + 1) % 6, land, false), 1);
    }
    Due.due("it stays", x.on(), 20);
    Due.due("law 8 of 5", x.law(5, 8, 0), 13);
  }

  private static void tapeAndRefusalsStay() {
    Due.section("(THE TAPE and REFUSALS stay)");
    NineLands x = Due.life("0b0-150*10");
    Due.feed(x, "1s");
    x.put(-1);
    x.image();
    Due.feed(x, "5-9*7");
    x.put(10000);
    x.owed(9);
    Due.due("on", x.on(), 1);
    Due.due("the tape", x.count(3), 7);
    Due.due("refusals -4", x.count(14), 1);
    Due.due("refusals -6", x.count(16), 1);
    Due.due("refusals -1", x.count(11), 1);
    Due.due("its text", x.spell(), 1);
    Due.due("its land", x.spellOf(1, 0), 1);
    Due.due("its till", x.spellOf(1, 3), 9);
    Due.due("on again", x.on(), 1);
    Due.due("the tape is empty still", x.count(3), 0);
    // The row is neither of the image nor named as what stays: it is left alone.
    x.put(150);
    x.image();
    x.put(0);
    x.on();
    Due.due("the row", x.count(4), 2);
    Due.due("its sums", x.judge(), 2);
  }
}
