import java.util.ArrayList;
import java.util.List;
import java.util.function.Consumer;
import java.util.function.ToIntFunction;

/**
 * REFUSALS: each one of each call, at its bound and far behind it, and each two that fit at once. Of two lives that
 * were told the same one is refused something; then all that can be asked of both must be the same, but for how many
 * refusals of that number there were.
 */
public final class RefusedTest {
  private static final int MIN = Integer.MIN_VALUE;
  private static final int MAX = Integer.MAX_VALUE;
  private static final int SUM = 1000000000;
  private static final int[] LAW_MOST = {900, 900, 99, 9999, 9999, 100, 100, 50, 15};
  private static final int[] BELOW = {-1, -2, MIN};

  /** A life as it is told, and what it then holds: how many spells, and whether there is an image. */
  private record Told(String name, Consumer<NineLands> calls, int spells, boolean hasImage) {
    private NineLands life() {
      NineLands x = new NineLands();
      calls.accept(x);
      return x;
    }
  }

  private static final Told NEW = new Told("new", x -> { }, 0, false);
  private static final Told SOME = new Told("some", RefusedTest::tellSome, 4, true);
  private static final Told FULL = new Told("full", RefusedTest::tellFull, 20, true);
  private static final Told OLD = new Told("till 900", RefusedTest::tellOld, 4, false);
  private static final List<Told> ALL = List.of(NEW, SOME, FULL, OLD);

  public static void main(String[] args) {
    for (Told told : ALL) {
      Due.section(told.name);
      Due.due("spells", told.life().count(0), told.spells);
      Due.due("an image", told.life().on() == -3 ? 0 : 1, told.hasImage ? 1 : 0);
      spellsOfOthers(told);
      lands(told);
      laws(told);
      whats(told);
      months(told);
      ages(told);
      pays(told);
      sums(told);
    }
    rooms();
    states();
    counted();
    Due.end();
  }

  /** Spells, laws, kinds and pacts; an image of others; a text on the tape and a row that is as it should be. */
  private static void tellSome(NineLands x) {
    Due.spell(x, "4s5-25*40");
    x.law(3, 5, 7);
    x.kind(5, 2);
    x.pact(2, 4, true);
    x.image();
    Due.spell(x, "0b0-150*10");
    Due.spell(x, "1f140-300*20!");
    Due.spell(x, "2a100-260*30");
    x.show(2, false);
    x.law(0, 3, 200);
    x.law(4, 0, 10);
    x.law(1, 1, 800);
    x.kind(0, 4);
    x.kind(4, 3);
    x.pact(0, 1, true);
    Due.feed(x, "4f7-9*800!");
    putOwed(x, 5);
    x.owed(6);
    x.put(-1);
  }

  /** No room for a spell nor a sum, and little on the tape; lands share few months, so that each pact matters. */
  private static void tellFull(NineLands x) {
    Due.spell(x, "4b0-45*11");
    x.law(3, 3, 5);
    x.pact(4, 2, true);
    x.image();
    x.pact(4, 2, false);
    tellNineteen(x);
    Due.feed(x, "5a000-900*999!");
    putOwed(x, 6);
  }

  private static void tellNineteen(NineLands x) {
    for (int i = 1; i < 20; i++) {
      Due.spell(x, i % 6 + "a" + i * 40 + "-" + (i * 40 + 45) + "*" + i);
    }
    x.show(7, false);
    for (int land = 0; land < 6; land++) {
      x.law(land, 0, 60);
    }
    x.kind(1, 1);
    x.law(1, 3, 90);
  }

  private static void tellOld(NineLands x) {
    Due.spell(x, "0b700-890*10");
    Due.spell(x, "2s899-900*5!");
    Due.spell(x, "0b890-899*9");
    Due.spell(x, "1b600-610*9");
    x.show(1, false);
    x.show(2, false);
    x.law(2, 1, 900);
    Due.feed(x, "1b898-899*7");
    putOwed(x, 6);
  }

  private static Told full(String name, String text) {
    return new Told("full, " + name, x -> fill(x, text), 20, false);
  }

  /** 20 spells and no image, and a text on the tape. */
  private static void fill(NineLands x, String text) {
    Due.spell(x, "0b1-40*7!");
    tellNineteen(x);
    Due.feed(x, text);
    putOwed(x, 6);
  }

  /** Sums as due: were one of them changed or lost, judge() would answer otherwise. */
  private static void putOwed(NineLands x, int sums) {
    for (int land = 0; land < sums; land++) {
      x.put(x.owed(land));
    }
  }

  private static void refused(Told told, String call, int answer, ToIntFunction<NineLands> refusal) {
    Due.section(told.name + ", " + call);
    int number = answer > 0 ? answer - SUM : -answer;
    for (boolean ofImage : new boolean[] {false, true}) {
      NineLands x = told.life();
      NineLands twin = told.life();
      Due.due("refused", refusal.applyAsInt(x), answer);
      List<Integer> got = allOf(x, ofImage && told.hasImage);
      List<Integer> due = allOf(twin, ofImage && told.hasImage);
      due.set(number - 1, due.get(number - 1) + 1);
      for (int i = 0; i < Math.max(got.size(), due.size()); i++) {
        Due.due("place " + i + " of all", i < got.size() ? got.get(i) : MIN, i < due.size() ? due.get(i) : MIN);
      }
    }
  }

  /** All that can be asked: how many refusals of each number first; the life is used up by it. */
  private static List<Integer> allOf(NineLands x, boolean ofImage) {
    List<Integer> all = new ArrayList<>();
    for (int what = 11; what <= 16; what++) {
      all.add(x.count(what));
    }
    for (int what = 0; what <= 5; what++) {
      all.add(x.count(what));
    }
    all.add(x.all());
    all.add(x.rests());
    all.add(x.over(0));
    all.add(x.over(1));
    all.add(x.hangs());
    all.add(x.judge());
    if (ofImage) {
      all.add(x.on());
    }
    // Where there is room for a spell, the tape's text is read by it.
    all.add(x.spell());
    addBook(all, x);
    all.add(x.count(3));
    all.add(x.on());
    return all;
  }

  private static void addBook(List<Integer> all, NineLands x) {
    int spells = x.count(0);
    for (int spell = 0; spell < spells; spell++) {
      for (int what = 0; what < 7; what++) {
        all.add(x.spellOf(spell, what));
      }
    }
    for (int land = 0; land < 6; land++) {
      all.add(x.counts(land, 1));
      all.add(x.counts(land, 2));
      all.add(x.owed(land));
      all.add(x.kind(land, 0));
      for (int law = 0; law < 9; law++) {
        all.add(x.law(land, law, 0));
      }
      for (int other = 0; other < land; other++) {
        all.add(x.pact(land, other, false));
      }
    }
  }

  private static void spellsOfOthers(Told told) {
    int[] others = {-1, MIN, told.spells, told.spells + 1, 20, 21, MAX};
    for (int n : others) {
      refused(told, "spellOf " + n, -1, x -> x.spellOf(n, 0));
      refused(told, "spellOf " + n + " and what", -1, x -> x.spellOf(n, 7));
      refused(told, "show " + n, -1, x -> x.show(n, true));
      refused(told, "show not " + n, -1, x -> x.show(n, false));
      refused(told, "proof " + n, SUM + 1, x -> x.proof(n));
    }
  }

  private static void lands(Told told) {
    for (int n : new int[] {-1, 6, MIN, MAX}) {
      refused(told, "law, land " + n, -1, x -> x.law(n, 0, 5));
      refused(told, "law, land " + n + " and below", -1, x -> x.law(n, 0, -1));
      refused(told, "law, land " + n + " and above", -1, x -> x.law(n, 0, 901));
      refused(told, "kind, land " + n, -1, x -> x.kind(n, 1));
      refused(told, "kind, land " + n + " and kind", -1, x -> x.kind(n, 6));
      refused(told, "pact of " + n, -1, x -> x.pact(n, 3, true));
      refused(told, "pact with " + n, -1, x -> x.pact(3, n, true));
      refused(told, "no pact with " + n, -1, x -> x.pact(0, n, false));
      refused(told, "pact of " + n + " twice", -1, x -> x.pact(n, n, true));
      refused(told, "counts, land " + n, -1, x -> x.counts(n, 0));
      refused(told, "counts, land " + n + " and what", -1, x -> x.counts(n, 4));
      refused(told, "month, land " + n, -1, x -> x.month(n, 0));
      refused(told, "month, land " + n + " and below", -1, x -> x.month(n, -1));
      refused(told, "month, land " + n + " and above", -1, x -> x.month(n, 900));
      refused(told, "alone, land " + n, -1, x -> x.alone(n, 0));
      refused(told, "alone, land " + n + " and kind", -1, x -> x.alone(n, -1));
      refused(told, "lacks, land " + n, -1, x -> x.lacks(n, false));
      refused(told, "lacks put, land " + n, -1, x -> x.lacks(n, true));
      refused(told, "owed, land " + n, -1, x -> x.owed(n));
      refused(told, "asks, land " + n, -1, x -> x.asks(n, 800, 900));
      refused(told, "asks, land " + n + " and below", -1, x -> x.asks(n, -1, -1));
      refused(told, "asks, land " + n + " and above", -1, x -> x.asks(n, 901, 1201));
      refused(told, "when, land " + n, -1, x -> x.when(n, 900));
      refused(told, "when, land " + n + " and below", -1, x -> x.when(n, -1));
      refused(told, "when, land " + n + " and above", -1, x -> x.when(n, 1201));
      refused(told, "lives, land " + n, -1, x -> x.lives(n));
      refused(told, "edge, land " + n, -1, x -> x.edge(n, 5));
      refused(told, "edge, land " + n + " and below", -1, x -> x.edge(n, -1));
      refused(told, "edge, land " + n + " and above", -1, x -> x.edge(n, 1000));
    }
    for (int land = 0; land < 6; land++) {
      int n = land;
      refused(told, "pact of " + n + " twice", -1, x -> x.pact(n, n, true));
      refused(told, "no pact of " + n + " twice", -1, x -> x.pact(n, n, false));
    }
  }

  private static void laws(Told told) {
    for (int n : new int[] {-1, 9, MIN, MAX}) {
      refused(told, "law " + n, -1, x -> x.law(0, n, 0));
      refused(told, "law " + n + " and below", -1, x -> x.law(5, n, -1));
      refused(told, "law " + n + " and above", -1, x -> x.law(5, n, 10000));
    }
    for (int law = 0; law < 9; law++) {
      int n = law;
      for (int below : BELOW) {
        refused(told, "law " + n + " below: " + below, -4, x -> x.law(n % 6, n, below));
      }
      for (int above : new int[] {LAW_MOST[n] + 1, MAX}) {
        refused(told, "law " + n + " above: " + above, -6, x -> x.law(n % 6, n, above));
      }
    }
  }

  private static void whats(Told told) {
    if (told.spells > 0) {
      for (int n : new int[] {-1, 7, MIN, MAX}) {
        refused(told, "spellOf what " + n, -2, x -> x.spellOf(0, n));
        refused(told, "spellOf the last, what " + n, -2, x -> x.spellOf(told.spells - 1, n));
      }
    }
    for (int n : new int[] {-1, 6, MIN, MAX}) {
      refused(told, "kind " + n, -2, x -> x.kind(0, n));
      refused(told, "alone, kind " + n, -2, x -> x.alone(5, n));
    }
    for (int n : new int[] {-1, 4, MIN, MAX}) {
      refused(told, "counts what " + n, -2, x -> x.counts(0, n));
    }
    for (int n : new int[] {-1, 2, MIN, MAX}) {
      refused(told, "over what " + n, -2, x -> x.over(n));
      refused(told, "year what " + n, SUM + 2, x -> x.year(5, n));
      refused(told, "year what " + n + " and below", SUM + 2, x -> x.year(-1, n));
      refused(told, "year what " + n + " and above", SUM + 2, x -> x.year(1000, n));
    }
  }

  private static void months(Told told) {
    for (int below : BELOW) {
      refused(told, "month " + below, -4, x -> x.month(0, below));
    }
    for (int above : new int[] {900, 901, MAX}) {
      refused(told, "month " + above, -6, x -> x.month(0, above));
    }
  }

  private static void ages(Told told) {
    int[] below = {told.life().law(1, 1, 0) - 1, -1, MIN};
    for (int n : below) {
      refused(told, "asks at " + n, -4, x -> x.asks(1, n, 900));
      refused(told, "asks at " + n + ", last above", -4, x -> x.asks(1, n, 1201));
      refused(told, "asks at " + n + ", last below", -4, x -> x.asks(1, n, -1));
    }
    for (int n : BELOW) {
      refused(told, "asks, last " + n, -4, x -> x.asks(1, 800, n));
      refused(told, "asks at 901, last " + n, -4, x -> x.asks(1, 901, n));
      refused(told, "when, last " + n, -4, x -> x.when(1, n));
    }
    for (int n : new int[] {901, MAX}) {
      refused(told, "asks at " + n, -6, x -> x.asks(1, n, 900));
      refused(told, "asks at " + n + ", last above", -6, x -> x.asks(1, n, 1201));
    }
    for (int n : new int[] {1201, MAX}) {
      refused(told, "asks, last " + n, -6, x -> x.asks(1, 900, n));
      refused(told, "when, last " + n, -6, x -> x.when(1, n));
    }
  }

  private static void pays(Told told) {
    for (int below : BELOW) {
      refused(told, "edge, pay " + below, -4, x -> x.edge(0, below));
      refused(told, "year, pay " + below, SUM + 4, x -> x.year(below, 0));
    }
    for (int above : new int[] {1000, MAX}) {
      refused(told, "edge, pay " + above, -6, x -> x.edge(0, above));
      refused(told, "year, pay " + above, SUM + 6, x -> x.year(above, 1));
    }
  }

  private static void sums(Told told) {
    for (int below : BELOW) {
      refused(told, "put " + below, -4, x -> x.put(below));
    }
    for (int above : new int[] {10000, MAX}) {
      refused(told, "put " + above, -6, x -> x.put(above));
    }
    for (int n : new int[] {0, -1, MIN}) {
      refused(told, "feed " + n, -4, x -> x.feed(n, 0x3030303030303030L));
    }
    for (int n : new int[] {9, MAX}) {
      refused(told, "feed " + n, -6, x -> x.feed(n, 0x3030303030303030L));
    }
  }

  private static void rooms() {
    Told brim = full("16 bytes", "5a000-900*999!!!");
    refused(brim, "feed 1, 16 on the tape", -6, x -> x.feed(1, '0'));
    refused(brim, "feed 8, 16 on the tape", -6, x -> x.feed(8, '0'));
    refused(FULL, "feed 3, 14 on the tape", -6, x -> x.feed(3, '0'));
    refused(FULL, "feed 8, 14 on the tape", -6, x -> x.feed(8, '0'));
    refused(SOME, "feed 7, 10 on the tape", -6, x -> x.feed(7, '0'));
    refused(SOME, "feed 8, 10 on the tape", -6, x -> x.feed(8, '0'));
    refused(FULL, "put 0, 6 of them", -6, x -> x.put(0));
    refused(FULL, "put 9999, 6 of them", -6, x -> x.put(9999));
    refused(FULL, "spell, 20 of them, a text that stands", -6, x -> x.spell());
    refused(brim, "spell, 20 of them, a fault", -6, x -> x.spell());
    refused(full("no text", ""), "spell, 20 of them", -6, x -> x.spell());
    refused(full("part of a text", "0b1-"), "spell, 20 of them", -6, x -> x.spell());
  }

  private static void states() {
    refused(FULL, "edge, 20 spells", -3, x -> x.edge(0, 0));
    refused(FULL, "edge, 20 spells, most pay", -3, x -> x.edge(5, 999));
    refused(FULL, "year, 20 spells", SUM + 3, x -> x.year(0, 0));
    refused(FULL, "year, 20 spells, worth", SUM + 3, x -> x.year(999, 1));
    refused(OLD, "year, no month is left", SUM + 3, x -> x.year(0, 0));
    refused(OLD, "year, no month is left, worth", SUM + 3, x -> x.year(999, 1));
    refused(SOME, "proof, it is shown", SUM + 3, x -> x.proof(0));
    refused(SOME, "proof, the last is shown", SUM + 3, x -> x.proof(3));
    refused(FULL, "proof, one of 20 is shown", SUM + 3, x -> x.proof(19));
    refused(NEW, "on, no image", -3, x -> x.on());
    refused(OLD, "on, no image", -3, x -> x.on());
    refused(full("no image", "0b1-3*5"), "on", -3, x -> x.on());
  }

  /** Each refusal is counted each time, up to an object's last call. */
  private static void counted() {
    Due.section("512 calls");
    NineLands x = new NineLands();
    for (int i = 0; i < 511; i++) {
      x.owed(6);
    }
    Due.due("the 512th", x.count(11), 511);
    NineLands good = Due.life("0b0-120*10");
    for (int i = 3; i < 511; i++) {
      Due.due("call " + (i + 1), good.law(0, 0, 120), 120);
    }
    Due.due("the 512th", good.owed(0), 120);
  }
}
