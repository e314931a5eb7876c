/** Promises 17 to 20: asking in a month, when to ask, and where to live. */
public final class AskTest {
  public static void main(String[] args) {
    asks();
    asksRefused();
    when();
    lives();
    where();
    Due.end();
  }

  /** Land 0 owes 151 a month. */
  private static NineLands owing151() {
    NineLands x = Due.life("0b0-151*10");
    Due.due("owed", x.owed(0), 151);
    return x;
  }

  private static void asks() {
    Due.section("promise 17");
    NineLands x = owing151();
    Due.due("one month", x.asks(0, 780, 780), 151);
    Due.due("that month too", x.asks(0, 780, 781), 302);
    Due.due("dead before", x.asks(0, 780, 779), 0);
    Due.due("dead at birth", x.asks(0, 780, 0), 0);
    Due.due("later, no more of it", x.asks(0, 900, 1200), 151 * 301);
    Due.due("another land owes nothing", x.asks(1, 780, 1200), 0);
    x.law(0, 7, 3);
    Due.due("11 months later", x.asks(0, 791, 791), 151);
    // 151 and 3 hundredths of it are 155.53.
    Due.due("12 months later", x.asks(0, 792, 792), 155);
    Due.due("cut, then each month", x.asks(0, 792, 801), 1550);
    Due.due("23 months later", x.asks(0, 803, 803), 155);
    // 6 hundredths are 9.06: each part of it is not cut.
    Due.due("24 months later", x.asks(0, 804, 804), 160);
    // 30 hundredths of 151 are 45.3.
    Due.due("120 months later", x.asks(0, 900, 900), 196);
    x.law(1, 7, 50);
    Due.due("by the land's own law", x.asks(0, 900, 900), 196);
    NineLands third = Due.life("3b0-200*10");
    third.law(3, 7, 5);
    Due.due("a third land", third.asks(3, 792, 792), 210);
    third.law(3, 1, 800);
    Due.due("from its own age on", third.asks(3, 812, 812), 210);
    x.law(0, 1, 0);
    // 225 hundredths more are 339.75.
    Due.due("75 years later", x.asks(0, 900, 900), 490);
    Due.due("at once", x.asks(0, 0, 1200), 151 * 1201);
    NineLands most = Due.life("0b0-900*999");
    most.law(0, 2, 99);
    most.law(0, 7, 50);
    most.law(0, 1, 0);
    Due.due("the greatest of all", most.asks(0, 900, 1200), 384961L * 301);
    NineLands ring = Due.life("0b0-1*0", "1b1-2*0");
    for (int land = 0; land < 2; land++) {
      ring.law(land, 0, 0);
      ring.law(land, 3, 100);
    }
    ring.kind(0, 1);
    ring.kind(1, 4);
    ring.law(1, 5, 30);
    Due.due("what is owed in the ring", ring.asks(1, 780, 780), 70);
  }

  private static void asksRefused() {
    Due.section("promise 17, refused");
    NineLands x = owing151();
    Due.due("land 6", x.asks(6, 780, 780), -1);
    Due.due("land -1", x.asks(-1, 780, 780), -1);
    Due.due("below age", x.asks(0, 779, 800), -4);
    Due.due("month least", x.asks(0, Integer.MIN_VALUE, 800), -4);
    Due.due("last below 0", x.asks(0, 780, -1), -4);
    Due.due("month 901", x.asks(0, 901, 1000), -6);
    Due.due("month most", x.asks(0, Integer.MAX_VALUE, 1000), -6);
    Due.due("last 1201", x.asks(0, 780, 1201), -6);
    Due.due("below first", x.asks(0, 901, -1), -4);
    Due.due("below first, the other way", x.asks(0, 779, 1201), -4);
    Due.due("land first", x.asks(6, 901, -1), -1);
    Due.due("refusals -1", x.count(11), 3);
    Due.due("refusals -4", x.count(14), 5);
    Due.due("refusals -6", x.count(16), 3);
    x.law(0, 1, 781);
    Due.due("the land's own age", x.asks(0, 780, 800), -4);
    Due.due("the other's", x.asks(1, 780, 800), 0);
    x.law(0, 1, 900);
    Due.due("age 900", x.asks(0, 900, 900), 151);
  }

  private static void when() {
    Due.section("promise 18");
    NineLands third = Due.life("3b0-200*10");
    third.law(3, 1, 850);
    third.law(3, 7, 50);
    Due.due("asked at once, by its own age", third.when(3, 850), 850);
    Due.due("dead before, and no month above 900", third.when(3, 849), -9);
    NineLands one = Due.life("0b0-10*1");
    one.law(0, 0, 10);
    Due.due("one of 1", one.asks(0, 780, 780), 1);
    Due.due("it is worth asking", one.when(0, 780), 780);
    Due.due("900 is not one of its months", third.when(3, 1200), 898);
    NineLands x = owing151();
    Due.due("nothing more: at once", x.when(0, 1200), 780);
    x.law(0, 7, 10);
    // 10 years later twice as much, for 301 months; 9 years later 286 for 313.
    Due.due("long life", x.when(0, 1200), 900);
    Due.due("short life", x.when(0, 790), 780);
    Due.due("its age", x.when(0, 780), 780);
    Due.due("dead before", x.when(0, 779), -9);
    Due.due("dead at birth", x.when(0, 0), -9);
    Due.due("nothing is owed", x.when(1, 1200), -9);
    x.law(0, 1, 889);
    Due.due("900 at most", x.when(0, 1200), 889);
    x.law(0, 1, 888);
    Due.due("900 too", x.when(0, 1200), 900);
    x.law(0, 1, 900);
    Due.due("age 900", x.when(0, 1200), 900);
    x.law(0, 1, 0);
    // From 0 on no more than ten years are waited.
    Due.due("120 later at most", x.when(0, 1200), 120);
    x.law(0, 7, 50);
    Due.due("120 later at most, much more", x.when(0, 1200), 120);
    NineLands tie = Due.life("0b0-120*10");
    tie.law(0, 2, 1);
    tie.law(0, 7, 50);
    // Owed 12: 12 for 36 months, 18 for 24 and 24 for 12: the first two bring 432.
    Due.due("owed", tie.owed(0), 12);
    Due.due("of several the earliest", tie.when(0, 815), 780);
    // 12 for 37 are 444, 18 for 25 are 450.
    Due.due("a month more", tie.when(0, 816), 792);
    Due.due("land 6", x.when(6, 0), -1);
    Due.due("land -1", x.when(-1, -1), -1);
    Due.due("last -1", x.when(0, -1), -4);
    Due.due("last 1201", x.when(0, 1201), -6);
    Due.due("land first", x.when(6, 1201), -1);
    Due.due("refusals -1", x.count(11), 3);
    Due.due("refusals -4", x.count(14), 1);
    Due.due("refusals -6", x.count(16), 1);
  }

  /** Lands 0 to 2 owe 151, 200 and 99. */
  private static NineLands owingThree() {
    NineLands x = Due.life("0b0-151*10", "1b0-200*10", "2b0-99*10");
    x.law(2, 0, 99);
    return x;
  }

  private static void lives() {
    Due.section("promise 19");
    NineLands x = owingThree();
    Due.due("nothing away", x.lives(5), 450);
    x.law(0, 6, 50);
    // 50 hundredths of 151 are 75, cut.
    Due.due("in 0", x.lives(0), 450);
    Due.due("in 1", x.lives(1), 375);
    Due.due("in 5", x.lives(5), 375);
    x.law(2, 6, 100);
    Due.due("in 0, less of 2", x.lives(0), 351);
    Due.due("in 1, less of both", x.lives(1), 276);
    Due.due("in 2", x.lives(2), 375);
    x.law(5, 6, 100);
    Due.due("a land that owes nothing", x.lives(5), 276);
    Due.due("land 6", x.lives(6), -1);
    Due.due("land -1", x.lives(-1), -1);
    Due.due("refusals", x.count(11), 2);
  }

  private static void where() {
    Due.section("promise 20");
    NineLands x = owingThree();
    Due.due("all the same", x.where(), 0);
    x.law(2, 6, 100);
    Due.due("2 alone takes off", x.where(), 2);
    x.law(1, 6, 49);
    // 98 of 200 against 99 of 99.
    Due.due("2 still", x.where(), 2);
    x.law(0, 6, 100);
    Due.due("0 takes off most", x.where(), 0);
    x.law(0, 6, 0);
    x.law(1, 6, 50);
    Due.due("1 takes off most", x.where(), 1);
    x.law(2, 6, 0);
    x.show(1, false);
    Due.due("of several the least", x.where(), 0);
    x.law(2, 6, 2);
    Due.due("one more", x.where(), 2);
  }
}
