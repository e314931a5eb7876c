/** Promises 6 to 8: laws, kinds and pacts. */
public final class LawTest {
  private static final int[] FIRST = {120, 780, 10, 0, 9999, 0, 0, 0, 15};
  private static final int[] MOST = {900, 900, 99, 9999, 9999, 100, 100, 50, 15};

  public static void main(String[] args) {
    laws();
    kinds();
    pacts();
    Due.end();
  }

  private static void laws() {
    Due.section("promise 6");
    NineLands x = new NineLands();
    for (int land = 0; land < 6; land++) {
      for (int law = 0; law < 9; law++) {
        String call = "land " + land + " law " + law;
        Due.due(call + " below", x.law(land, law, -1), -4);
        Due.due(call + " far below", x.law(land, law, Integer.MIN_VALUE), -4);
        Due.due(call + " above", x.law(land, law, MOST[law] + 1), -6);
        Due.due(call + " far above", x.law(land, law, Integer.MAX_VALUE), -6);
        Due.due(call + " at first", x.law(land, law, MOST[law]), FIRST[law]);
        Due.due(call + " at most", x.law(land, law, 0), MOST[law]);
        Due.due(call + " at least", x.law(land, law, (land + law) % 10), 0);
      }
    }
    for (int land = 0; land < 6; land++) {
      for (int law = 0; law < 9; law++) {
        Due.due("each for itself", x.law(land, law, 0), (land + law) % 10);
      }
    }
    Due.due("land -1", x.law(-1, 0, 0), -1);
    Due.due("land 6", x.law(6, 0, 0), -1);
    Due.due("law -1", x.law(0, -1, 0), -1);
    Due.due("law 9", x.law(0, 9, 0), -1);
    Due.due("law most", x.law(0, Integer.MAX_VALUE, 0), -1);
    Due.due("land before below", x.law(6, 0, -1), -1);
    Due.due("law before above", x.law(0, 9, 10000), -1);
    Due.due("refusals -1", x.count(11), 7);
    Due.due("refusals -4", x.count(14), 108);
    Due.due("refusals -6", x.count(16), 108);
  }

  private static void kinds() {
    Due.section("promise 7");
    NineLands x = new NineLands();
    for (int kind = 0; kind < 6; kind++) {
      Due.due("kind " + kind, x.kind(2, kind), Math.max(0, kind - 1));
    }
    Due.due("another land", x.kind(3, 1), 0);
    Due.due("kind 6", x.kind(2, 6), -2);
    Due.due("kind -1", x.kind(2, -1), -2);
    Due.due("land 6", x.kind(6, 0), -1);
    Due.due("land -1", x.kind(-1, 0), -1);
    Due.due("both", x.kind(6, 6), -1);
    Due.due("unchanged", x.kind(2, 5), 5);
    Due.due("refusals -1", x.count(11), 3);
    Due.due("refusals -2", x.count(12), 2);
  }

  private static void pacts() {
    Due.section("promise 8");
    NineLands x = Due.life("0b0-10*1");
    Due.due("none yet", x.pact(0, 1, false), 0);
    Due.due("made", x.pact(0, 1, true), 1);
    Due.due("so already, the other way", x.pact(1, 0, true), 0);
    Due.due("months come", x.counts(1, 2), 10);
    Due.due("another", x.pact(5, 0, true), 1);
    Due.due("pacts", x.count(2), 2);
    Due.due("of a third's pact nothing comes", x.counts(2, 2), 0);
    Due.due("parted", x.pact(1, 0, false), 1);
    Due.due("parted already", x.pact(0, 1, false), 0);
    Due.due("no months come", x.counts(1, 2), 0);
    Due.due("pacts left", x.count(2), 1);
    Due.due("one twice", x.pact(3, 3, true), -1);
    Due.due("one twice, parted", x.pact(0, 0, false), -1);
    Due.due("land 6", x.pact(6, 0, true), -1);
    Due.due("land 6, behind", x.pact(0, 6, true), -1);
    Due.due("land -1", x.pact(-1, 0, true), -1);
    Due.due("land -1, behind", x.pact(0, -1, true), -1);
    Due.due("6 twice", x.pact(6, 6, true), -1);
    Due.due("refusals", x.count(11), 7);
    Due.due("pacts still", x.count(2), 1);
    for (int a = 0; a < 6; a++) {
      for (int b = 0; b < a; b++) {
        x.pact(a, b, true);
      }
    }
    Due.due("all pacts", x.count(2), 15);
  }
}
