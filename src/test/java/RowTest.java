/** Promises 25 to 29: a row of sums, judging it, images, and counts. */
public final class RowTest {
  public static void main(String[] args) {
    put();
    judge();
    judgeInTheRing();
    image();
    count();
    Due.end();
  }

  private static void puts(NineLands x, int... sums) {
    for (int sum : sums) {
      x.put(sum);
    }
  }

  private static void put() {
    Due.section("promise 25");
    NineLands x = new NineLands();
    Due.due("-1", x.put(-1), -4);
    Due.due("least", x.put(Integer.MIN_VALUE), -4);
    Due.due("10000", x.put(10000), -6);
    Due.due("most", x.put(Integer.MAX_VALUE), -6);
    for (int i = 1; i <= 6; i++) {
      Due.due("sum " + i, x.put(i % 2 * 9999), i);
    }
    Due.due("a seventh", x.put(0), -6);
    Due.due("a seventh, below", x.put(-1), -4);
    Due.due("sums", x.count(4), 6);
    Due.due("refusals -4", x.count(14), 3);
    Due.due("refusals -6", x.count(16), 3);
    x.judge();
    Due.due("a new row", x.put(5), 1);
  }

  private static void judge() {
    Due.section("promise 26");
    NineLands x = Due.life("0b0-150*10", "2b0-200*10");
    Due.due("none", x.judge(), 0);
    puts(x, 150, 0, 200, 0, 0, 0);
    Due.due("all are so", x.judge(), -9);
    Due.due("the row has none", x.count(4), 0);
    Due.due("none again", x.judge(), 0);
    puts(x, 150, 0, 201, 0, 0, 1);
    Due.due("the first that is not", x.judge(), 2);
    puts(x, 150, 0, 200, 0, 0, 1);
    Due.due("the last", x.judge(), 5);
    puts(x, 149);
    Due.due("not, and too short", x.judge(), 0);
    puts(x, 150);
    Due.due("ends at 1", x.judge(), 1);
    puts(x, 150, 0, 200, 0, 0);
    Due.due("ends at 5", x.judge(), 5);
    puts(x, 150, 1, 200, 0, 0);
    Due.due("not before it ends", x.judge(), 1);
    x.show(2, false);
    puts(x, 151, 0, 200, 0, 0, 0);
    Due.due("refused, then judged", x.judge(), 0);
    x.show(1, false);
    puts(x, 150, 0, 0, 0, 0, 0);
    Due.due("as it is now", x.judge(), -9);
    x.kind(0, 1);
    x.law(0, 3, 400);
    x.show(1, true);
    x.law(2, 3, 500);
    puts(x, 400, 0, 200, 0, 0, 0);
    Due.due("each by its own kind", x.judge(), -9);
  }

  private static void judgeInTheRing() {
    Due.section("promise 26, others");
    NineLands x = Due.life("0b0-150*10", "1b0-200*10");
    x.kind(0, 4);
    x.law(0, 5, 10);
    x.kind(1, 5);
    x.law(1, 5, 100);
    // Owed in turn: 150, 50, then 145, 55; 145 stays of 150 less 5.
    Due.due("owed 0", x.owed(0), 145);
    Due.due("owed 1", x.owed(1), 55);
    puts(x, 145, 55, 0, 0, 0, 0);
    Due.due("what rests is so", x.judge(), -9);
    puts(x, 150, 50, 0, 0, 0, 0);
    Due.due("not by what the other owes", x.judge(), 0);
    puts(x, 145, 50, 0, 0, 0, 0);
    Due.due("the other is not", x.judge(), 1);
    puts(x, 145, 54, 0, 0, 0, 0);
    Due.due("cut, and so for 0 alone", x.judge(), 1);
    x.law(0, 5, 100);
    puts(x, 150);
    Due.due("what the row lacks is 0, whatever was told before", x.judge(), 1);
    x.law(0, 5, 10);
    puts(x, 139, 55, 0, 0, 0, 60);
    Due.due("all others of the row", x.judge(), 1);
    puts(x, 139, 1, 0, 0, 0, 60);
    Due.due("all others of the row, too many", x.judge(), 0);
    puts(x, 144, 1, 0, 0, 0, 60);
    Due.due("all others of the row, 0 is so", x.judge(), 1);
    puts(x, 144, 0, 0, 0, 0, 60);
    Due.due("all others of the row, but for the last", x.judge(), 5);
  }

  private static void image() {
    Due.section("promises 27 and 28");
    NineLands x = Due.life("0b0-150*10", "1b0-200*10");
    Due.due("no image", x.on(), -3);
    Due.due("refusals", x.count(13), 1);
    x.show(1, false);
    x.law(0, 2, 20);
    x.kind(0, 3);
    x.pact(0, 1, true);
    Due.due("taken", x.image(), 2);
    x.show(1, true);
    x.show(0, false);
    x.law(0, 2, 30);
    x.law(5, 8, 0);
    x.law(4, 7, 3);
    x.kind(0, 0);
    x.kind(4, 5);
    x.pact(0, 1, false);
    x.pact(2, 3, true);
    Due.spell(x, "3b5-6*7!");
    Due.feed(x, "3b");
    x.put(9);
    x.feed(0, 0);
    Due.due("on", x.on(), 2);
    Due.due("spells", x.count(0), 2);
    Due.due("shown", x.count(1), 1);
    Due.due("spell 0", x.spellOf(0, 6), 1);
    Due.due("spell 1", x.spellOf(1, 6), 0);
    Due.due("spell 1, till", x.spellOf(1, 3), 200);
    Due.due("pacts", x.count(2), 1);
    Due.due("the pact", x.pact(1, 0, true), 0);
    Due.due("law", x.law(0, 2, 11), 20);
    Due.due("another law", x.law(5, 8, 3), 15);
    Due.due("the same law of another land", x.law(5, 2, 3), 10);
    Due.due("a third law", x.law(4, 7, 3), 0);
    Due.due("kind", x.kind(0, 1), 3);
    Due.due("another kind", x.kind(4, 2), 0);
    Due.due("the tape stays", x.count(3), 2);
    Due.due("the row is not of the image", x.count(4), 1);
    Due.due("refusals stay", x.count(14), 1);
    Due.due("refusals stay too", x.count(13), 1);
    Due.feed(x, "7-8*9");
    Due.due("a new spell", x.spell(), 2);
    Due.due("it is new", x.spellOf(2, 5), 1);
    Due.due("on again", x.on(), 2);
    Due.due("law again", x.law(0, 2, 0), 20);
    Due.due("kind again", x.kind(0, 0), 3);
    Due.due("spells again", x.spellOf(2, 0), -1);
    Due.due("another is taken", x.image(), 2);
    Due.spell(x, "3b5-6*7!");
    x.law(0, 2, 5);
    Due.due("on from the newer", x.on(), 2);
    Due.due("its law", x.law(0, 2, 0), 0);
    NineLands empty = new NineLands();
    Due.due("empty", empty.image(), 0);
    Due.spell(empty, "3b5-6*7!");
    Due.due("on from the empty", empty.on(), 0);
    Due.due("none", empty.count(0), 0);
  }

  private static void count() {
    Due.section("promise 29");
    NineLands x = Due.life("0b0-150*10", "1b0-90*10", "2b3-4*5!");
    Due.due("behind", x.count(5), 150);
    x.show(0, false);
    Due.due("behind, shown or not", x.count(5), 150);
    Due.due("spells", x.count(0), 3);
    Due.due("shown", x.count(1), 2);
    x.pact(0, 1, true);
    x.pact(1, 0, true);
    x.pact(4, 5, true);
    Due.due("pacts", x.count(2), 2);
    Due.feed(x, "0b0-150*10");
    Due.due("bytes", x.count(3), 10);
    x.put(1);
    x.put(1);
    Due.due("sums", x.count(4), 2);
    x.owed(6);
    x.year(0, 2);
    x.alone(0, 7);
    x.proof(1);
    x.proof(2);
    x.on();
    for (int i = 0; i < 4; i++) {
      x.put(-1);
    }
    x.feed(9, 0);
    x.feed(7, 0);
    x.put(10000);
    x.proof(-1);
    x.year(0, -1);
    x.lacks(-1, true);
    x.over(3);
    x.when(7, 0);
    int[] refusals = {4, 4, 3, 4, 0, 3};
    for (int what = 11; what <= 16; what++) {
      Due.due("refusals " + what, x.count(what), refusals[what - 11]);
    }
    int[] others = {-1, 6, 7, 8, 9, 10, 17, 18, Integer.MIN_VALUE, Integer.MAX_VALUE};
    for (int what : others) {
      Due.due("count " + what, x.count(what), -9);
    }
    Due.due("that is no refusal", x.count(12), 4);
  }
}
