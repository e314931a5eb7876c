/** Promises 1 to 5: a new object, the tape, a spell's text, its columns, and showing it. */
public final class TextTest {
  private static final int MIN = Integer.MIN_VALUE;
  private static final int MAX = Integer.MAX_VALUE;

  public static void main(String[] args) {
    newObject();
    feed();
    goodTexts();
    faults();
    spellsRoom();
    spellOf();
    show();
    Due.end();
  }

  private static void newObject() {
    Due.section("promise 1");
    NineLands x = new NineLands();
    for (int what = 0; what <= 5; what++) {
      Due.due("count " + what, x.count(what), 0);
    }
    for (int what = 11; what <= 16; what++) {
      Due.due("count " + what, x.count(what), 0);
    }
    for (int land = 0; land < 6; land++) {
      Due.due("counts", x.counts(land, 0) + x.counts(land, 1) + x.counts(land, 2) + x.counts(land, 3), 0);
      Due.due("owed", x.owed(land), 0);
      Due.due("kind", x.kind(land, 0), 0);
      for (int other = 0; other < 6; other++) {
        if (other != land) {
          Due.due("pact", x.pact(land, other, false), 0);
        }
      }
    }
    Due.due("over", x.over(0), 0);
    Due.due("rests", x.rests(), 1);
    Due.due("judge", x.judge(), 0);
    Due.due("on", x.on(), -3);
  }

  private static void feed() {
    Due.section("promise 2");
    NineLands x = new NineLands();
    Due.due("n 0", x.feed(0, 0), -4);
    Due.due("n -1", x.feed(-1, 0), -4);
    Due.due("n least", x.feed(MIN, 0), -4);
    Due.due("n 9", x.feed(9, 0), -6);
    Due.due("n most", x.feed(MAX, 0), -6);
    Due.due("bytes", x.count(3), 0);
    Due.due("n 1", x.feed(1, '0' | 'x' << 8), 1);
    Due.due("lowest first", x.feed(3, 'b' | '1' << 8 | '-' << 16), 4);
    Due.due("n 3", x.feed(3, '2' | '*' << 8 | '3' << 16), 7);
    Due.due("the text", x.spell(), 0);
    Due.due("land", x.spellOf(0, 0), 0);
    Due.due("pay", x.spellOf(0, 4), 3);

    Due.due("half", x.feed(8, -1L), 8);
    Due.due("above 16", x.feed(7, 0), 15);
    Due.due("above 16 by one", x.feed(2, 0), -6);
    Due.due("refused: it stays", x.count(3), 15);
    Due.due("16", x.feed(1, 0), 16);
    Due.due("17", x.feed(1, 0), -6);
    Due.due("below first", x.feed(0, 0), -4);
    Due.due("refusals -4", x.count(14), 4);
    Due.due("refusals -6", x.count(16), 4);
    Due.due("bytes are no signs", x.spell(), -20);
  }

  private static void goodText(String text, int land, int work, int from, int till, int pay, int paidIn) {
    NineLands x = new NineLands();
    Due.due(text, Due.spell(x, text), 0);
    int[] columns = {land, work, from, till, pay, paidIn, 1};
    for (int what = 0; what < columns.length; what++) {
      Due.due(text + " column " + what, x.spellOf(0, what), columns[what]);
    }
    Due.due(text + ": the tape has none", x.count(3), 0);
  }

  private static void goodTexts() {
    Due.section("promises 3 and 4");
    goodText("0s1-2*3", 0, 0, 1, 2, 3, 1);
    goodText("1f10-20*30!", 1, 1, 10, 20, 30, 0);
    goodText("2a100-200*300", 2, 2, 100, 200, 300, 1);
    goodText("3b0-900*0", 3, 3, 0, 900, 0, 1);
    goodText("4s899-900*999!", 4, 0, 899, 900, 999, 0);
    goodText("5f007-008*009", 5, 1, 7, 8, 9, 1);
    goodText("0a99-100*00!", 0, 2, 99, 100, 0, 0);
  }

  private static void fault(String text, int place) {
    NineLands x = Due.life("0b1-2*3");
    Due.due(text, Due.spell(x, text), -20 - place);
    Due.due(text + ": the tape has none", x.count(3), 0);
    Due.due(text + ": spells", x.count(0), 1);
    for (int what = 11; what <= 16; what++) {
      Due.due(text + ": nothing is counted", x.count(what), 0);
    }
    Due.due(text + ": behind", x.count(5), 2);
    Due.due(text + ": the next one", Due.spell(x, "1s7-9*4!"), 1);
    Due.due(text + ": its till", x.spellOf(1, 3), 9);
  }

  private static void faults() {
    Due.section("promise 3, faults");
    fault("", 0);
    fault("6b1-2*3", 0);
    fault("/b1-2*3", 0);
    fault(" 0b1-2*3", 0);
    fault("\u00b0b1-2*3", 0);
    fault("0", 1);
    fault("0x1-2*3", 1);
    fault("0B1-2*3", 1);
    fault("0\u00e21-2*3", 1);
    fault("0b", 2);
    fault("0b-2*3", 2);
    fault("0b/-2*3", 2);
    fault("0b:-2*3", 2);
    fault("0b1", 3);
    fault("0b1+2*3", 3);
    fault("0b123", 5);
    fault("0b1234-2*3", 5);
    fault("0b1-", 4);
    fault("0b1-*3", 4);
    fault("0b5-5*3", 4);
    fault("0b5-4*3", 4);
    fault("0b10-1", 5);
    fault("0b10-1x", 5);
    fault("0b5-901*3", 4);
    fault("0b5-999", 4);
    fault("0b5-1000*3", 7);
    fault("0b900-", 6);
    fault("0b900-900*1", 6);
    fault("0b901-902*1", 6);
    fault("0b5-6", 5);
    fault("0b5-6!", 5);
    fault("0b5-900", 7);
    fault("0b5-6*", 6);
    fault("0b5-6*!", 6);
    fault("0b5-6*-1", 6);
    fault("0b5-6*1234", 9);
    fault("0b5-6*12?", 8);
    fault("0b5-6*1!!", 8);
    fault("0b5-6*1! ", 8);
    fault("5a000-900*999!!!", 14);
  }

  private static void spellsRoom() {
    Due.section("promise 3, room");
    NineLands x = new NineLands();
    for (int i = 0; i < 20; i++) {
      Due.due("spell " + i, Due.spell(x, "0b1-2*3"), i);
    }
    Due.feed(x, "0b1-2*3");
    Due.due("spell 20", x.spell(), -6);
    Due.due("the tape stays", x.count(3), 7);
    x.feed(1, '?');
    Due.due("no room, whatever the text", x.spell(), -6);
    Due.due("the tape stays still", x.count(3), 8);
    Due.due("spells", x.count(0), 20);
    Due.due("shown", x.count(1), 20);
    Due.due("the last", x.show(19, false), 1);
    Due.due("shown but the last", x.count(1), 19);
    Due.due("refusals", x.count(16), 2);
  }

  private static void spellOf() {
    Due.section("promise 4");
    NineLands x = Due.life("0b1-2*3", "1f4-9*8!");
    Due.due("the second", x.spellOf(1, 2), 4);
    Due.due("the first", x.spellOf(0, 2), 1);
    Due.due("spell -1", x.spellOf(-1, 0), -1);
    Due.due("spell 2", x.spellOf(2, 0), -1);
    Due.due("spell 20", x.spellOf(20, 0), -1);
    Due.due("spell most", x.spellOf(MAX, 0), -1);
    Due.due("spell least", x.spellOf(MIN, 0), -1);
    Due.due("what -1", x.spellOf(0, -1), -2);
    Due.due("what 7", x.spellOf(0, 7), -2);
    Due.due("what most", x.spellOf(0, MAX), -2);
    Due.due("both", x.spellOf(2, 7), -1);
    Due.due("refusals -1", x.count(11), 6);
    Due.due("refusals -2", x.count(12), 3);
    x.show(1, false);
    Due.due("not shown", x.spellOf(1, 6), 0);
    Due.due("the other is", x.spellOf(0, 6), 1);
  }

  private static void show() {
    Due.section("promise 5");
    NineLands x = Due.life("0b1-2*3", "1f4-9*8");
    Due.due("shown at first", x.show(0, true), 0);
    Due.due("not shown", x.show(0, false), 1);
    Due.due("so already", x.show(0, false), 0);
    Due.due("its months do not count", x.counts(0, 0), 0);
    Due.due("the other's do", x.counts(1, 0), 5);
    Due.due("shown", x.show(0, true), 1);
    Due.due("its months count", x.counts(0, 0), 1);
    Due.due("spell 2", x.show(2, true), -1);
    Due.due("spell -1", x.show(-1, false), -1);
    Due.due("spell least", x.show(MIN, false), -1);
    Due.due("refusals", x.count(11), 3);
  }
}
