import java.util.ArrayList;
import java.util.List;
import java.util.TreeMap;

/** Long runs of calls, each answer against the model's; the calls come from a fixed row of numbers. */
public final class ModelTest {
  private static final int RUNS = 100;
  private static final int CALLS = 512;
  private static final int[] LAW_MOST = {900, 900, 99, 9999, 9999, 100, 100, 50, 15};
  private static final int BIG = 1000000000;
  private static final TreeMap<String, Integer> SEEN = new TreeMap<>();

  private final NineLands x = new NineLands();
  private final int[] refused = new int[7];
  private final List<Integer> row = new ArrayList<>();
  private final String name;
  private Model model = new Model();
  private Model image = null;
  private String tape = "";
  private long number;
  private int calls = 0;

  private ModelTest(int run) {
    name = "run " + run;
    number = run * 7919L + 17;
  }

  public static void main(String[] args) {
    for (int run = 0; run < RUNS; run++) {
      new ModelTest(run).run();
    }
    if (args.length > 0) {
      SEEN.forEach((what, times) -> System.out.println(what + " " + times));
    }
    Due.end();
  }

  /** A number from 0 to bound - 1, by a plain row of remainders. */
  private int next(int bound) {
    number = number * 6364136223846793005L + 1442695040888963407L;
    return (int) ((number >>> 33) % bound);
  }

  private boolean oneIn(int times) {
    return next(times) == 0;
  }

  private int near(int most) {
    int[] near = {-1, 0, 1, most - 1, most, most + 1, Integer.MIN_VALUE, Integer.MAX_VALUE};
    return near[next(near.length)];
  }

  private int land() {
    return oneIn(30) ? near(5) : next(6);
  }

  private int spellNumber() {
    return upTo(oneIn(8) ? 20 : Math.max(0, model.spells.size() - 1));
  }

  private int upTo(int most) {
    return oneIn(12) ? near(most) : next(most + 1);
  }

  private void due(String call, long got, long want) {
    Due.section(name);
    Due.due(call, got, want);
    String answer = want > 0 && want < BIG ? "more" : want < -9 ? "less" : "" + want;
    SEEN.merge(call.substring(0, call.indexOf('(')) + " " + answer, 1, Integer::sum);
  }

  private int refuse(int refusal) {
    refused[-refusal]++;
    return refusal;
  }

  private int refuseSum(int refusal) {
    return BIG - refuse(refusal);
  }

  private static boolean isLand(int land) {
    return land >= 0 && land <= 5;
  }

  private boolean isSpell(int spell) {
    return spell >= 0 && spell < model.spells.size();
  }

  private void run() {
    int spells = next(18);
    for (int spell = 0; spell < spells; spell++) {
      tellSpell();
    }
    boolean restless = oneIn(3);
    for (int land = 0; land < 6; land++) {
      tellLaw(land, 0, restless ? next(3) : next(200));
      kind(land, restless ? 4 + next(2) : next(6));
      tellLaw(land, 3, restless ? 5000 + next(300) : oneIn(2) ? next(3000) : 0);
      tellLaw(land, 5, oneIn(3) || restless ? 100 : next(101));
    }
    while (calls < CALLS) {
      oneCall();
    }
  }

  private void oneCall() {
    switch (next(30)) {
      case 0: tellSpell(); break;
      case 1: show(spellNumber(), oneIn(2)); break;
      case 2: case 3: anyLaw(); break;
      case 4: kind(land(), upTo(5)); break;
      case 5: case 6: pact(land(), land(), !oneIn(4)); break;
      case 7: counts(land(), upTo(3)); break;
      case 8: month(land(), oneIn(2) ? upTo(899) : next(500)); break;
      case 9: over(upTo(1)); break;
      case 10: alone(land(), upTo(5)); break;
      case 11: lacks(land(), oneIn(2)); break;
      case 12: owed(land()); break;
      case 13: due("rests()", x.rests(), model.owed()[6]); calls++; break;
      case 14: due("all()", x.all(), model.all()); calls++; break;
      case 15: case 16: asks(land(), upTo(900), oneIn(3) ? upTo(1200) : 900 + next(301)); break;
      case 17: when(land(), oneIn(2) ? upTo(1200) : 700 + next(501)); break;
      case 18: lives(land()); break;
      case 19: due("where()", x.where(), model.where()); calls++; break;
      case 20: edge(land(), upTo(999)); break;
      case 21: due("hangs()", x.hangs(), model.hangs()); calls++; break;
      case 22: year(upTo(999), upTo(1)); break;
      case 23: proof(spellNumber()); break;
      case 24: tellRow(); break;
      case 25: image(); break;
      case 26: spellOf(spellNumber(), upTo(6)); break;
      case 27: feed(upTo(8), next(1 << 30) * 4567890123L); break;
      default: count(upTo(17)); break;
    }
  }

  private String text() {
    int from = oneIn(12) ? next(900) : next(500);
    int till = Math.min(900, from + 1 + next(oneIn(12) ? 900 : 120));
    String text = "" + next(6) + "sfab".charAt(next(4)) + from + "-" + till + "*" + next(oneIn(3) ? 1000 : 50);
    text = oneIn(6) ? text + "!" : text;
    if (oneIn(6)) {
      int place = next(text.length() + 1);
      text = text.substring(0, place) + (char) (oneIn(2) ? '0' + next(10) : next(256)) + text.substring(place);
    }
    if (oneIn(8)) {
      text = text.substring(0, next(text.length() + 1));
    }
    return text.substring(0, Math.min(16, text.length()));
  }

  private void tellSpell() {
    String text = text();
    if (!tape.isEmpty() && oneIn(2)) {
      spell();
    }
    for (int from = 0; from < text.length(); from += 8) {
      long bytes = 0;
      int n = Math.min(8, text.length() - from);
      for (int i = 0; i < n; i++) {
        bytes |= (long) text.charAt(from + i) << 8 * i;
      }
      feed(n, bytes);
    }
    spell();
  }

  private void feed(int n, long bytes) {
    int want;
    if (n < 1) {
      want = refuse(-4);
    } else if (n > 8 || tape.length() + n > 16) {
      want = refuse(-6);
    } else {
      for (int i = 0; i < n; i++) {
        tape += (char) (bytes >> 8 * i & 255);
      }
      want = tape.length();
    }
    due("feed(" + n + ", " + bytes + ")", x.feed(n, bytes), want);
    calls++;
  }

  private void spell() {
    int want;
    if (model.spells.size() == 20) {
      want = refuse(-6);
    } else {
      want = -20 - Model.fault(tape);
      if (want == -19) {
        want = model.spells.size();
        model.spells.add(Model.read(tape));
      }
      tape = "";
    }
    due("spell()", x.spell(), want);
    calls++;
  }

  private void spellOf(int spell, int what) {
    int want;
    if (!isSpell(spell)) {
      want = refuse(-1);
    } else if (what < 0 || what > 6) {
      want = refuse(-2);
    } else {
      Model.Spell s = model.spells.get(spell);
      want = new int[] {s.land(), s.work(), s.from(), s.till(), s.pay(), s.paidIn() ? 1 : 0, s.shown() ? 1 : 0}[what];
    }
    due("spellOf(" + spell + ", " + what + ")", x.spellOf(spell, what), want);
    calls++;
  }

  private void show(int spell, boolean is) {
    int want;
    if (!isSpell(spell)) {
      want = refuse(-1);
    } else {
      want = model.spells.get(spell).shown() == is ? 0 : 1;
      model = model.shown(spell, is);
    }
    due("show(" + spell + ", " + is + ")", x.show(spell, is), want);
    calls++;
  }

  private void anyLaw() {
    int law = oneIn(30) ? near(8) : next(9);
    int most = law >= 0 && law < 9 ? LAW_MOST[law] : 9;
    int v = law == 0 && oneIn(2) ? next(200) : upTo(most);
    tellLaw(land(), law, law == 8 && oneIn(2) ? 15 : law == 1 && oneIn(2) ? next(400) : v);
  }

  private void tellLaw(int land, int law, int v) {
    int want;
    if (!isLand(land) || law < 0 || law > 8) {
      want = refuse(-1);
    } else if (v < 0) {
      want = refuse(-4);
    } else if (v > LAW_MOST[law]) {
      want = refuse(-6);
    } else {
      want = model.laws[land][law];
      model.laws[land][law] = v;
    }
    due("law(" + land + ", " + law + ", " + v + ")", x.law(land, law, v), want);
    calls++;
  }

  private void kind(int land, int kind) {
    int want;
    if (!isLand(land)) {
      want = refuse(-1);
    } else if (kind < 0 || kind > 5) {
      want = refuse(-2);
    } else {
      want = model.kinds[land];
      model.kinds[land] = kind;
    }
    due("kind(" + land + ", " + kind + ")", x.kind(land, kind), want);
    calls++;
  }

  private void pact(int a, int b, boolean is) {
    int want;
    if (!isLand(a) || !isLand(b) || a == b) {
      want = refuse(-1);
    } else {
      want = model.pacts[a][b] == is ? 0 : 1;
      model.pacts[a][b] = is;
      model.pacts[b][a] = is;
    }
    due("pact(" + a + ", " + b + ", " + is + ")", x.pact(a, b, is), want);
    calls++;
  }

  private void counts(int land, int what) {
    int want = !isLand(land) ? refuse(-1) : what < 0 || what > 3 ? refuse(-2) : model.counts(land)[what];
    due("counts(" + land + ", " + what + ")", x.counts(land, what), want);
    calls++;
  }

  private void month(int land, int month) {
    int want = !isLand(land) ? refuse(-1) : month < 0 ? refuse(-4) : month > 899 ? refuse(-6) : model.month(land, month);
    due("month(" + land + ", " + month + ")", x.month(land, month), want);
    calls++;
  }

  private void over(int what) {
    int want = what < 0 || what > 1 ? refuse(-2) : model.over(what);
    due("over(" + what + ")", x.over(what), want);
    calls++;
  }

  private void alone(int land, int kind) {
    int want = !isLand(land) ? refuse(-1)
        : kind < 0 || kind > 5 ? refuse(-2)
        : model.due(land, kind, 0, model.counts(land));
    due("alone(" + land + ", " + kind + ")", x.alone(land, kind), want);
    calls++;
  }

  private void lacks(int land, boolean put) {
    due("lacks(" + land + ", " + put + ")", x.lacks(land, put), isLand(land) ? model.lacks(land, put) : refuse(-1));
    calls++;
  }

  private void owed(int land) {
    due("owed(" + land + ")", x.owed(land), isLand(land) ? model.owed()[land] : refuse(-1));
    calls++;
  }

  private void asks(int land, int month, int last) {
    int age = isLand(land) ? model.laws[land][1] : 0;
    int asked = month < age && !oneIn(5) ? age + next(901 - age) : month;
    long want = !isLand(land) ? refuse(-1)
        : asked < age || last < 0 ? refuse(-4)
        : asked > 900 || last > 1200 ? refuse(-6)
        : model.asks(land, asked, last);
    due("asks(" + land + ", " + asked + ", " + last + ")", x.asks(land, asked, last), want);
    calls++;
  }

  private void when(int land, int last) {
    int want = !isLand(land) ? refuse(-1) : last < 0 ? refuse(-4) : last > 1200 ? refuse(-6) : model.when(land, last);
    due("when(" + land + ", " + last + ")", x.when(land, last), want);
    calls++;
  }

  private void lives(int land) {
    due("lives(" + land + ")", x.lives(land), isLand(land) ? model.lives(land) : refuse(-1));
    calls++;
  }

  private void edge(int land, int pay) {
    int want = !isLand(land) ? refuse(-1)
        : pay < 0 ? refuse(-4)
        : pay > 999 ? refuse(-6)
        : model.spells.size() == 20 ? refuse(-3)
        : model.edge(land, pay);
    due("edge(" + land + ", " + pay + ")", x.edge(land, pay), want);
    calls++;
  }

  private void year(int pay, int what) {
    int want = what < 0 || what > 1 ? refuseSum(-2)
        : pay < 0 ? refuseSum(-4)
        : pay > 999 ? refuseSum(-6)
        : model.spells.size() == 20 || model.behind() == 900 ? refuseSum(-3)
        : model.year(pay, what);
    due("year(" + pay + ", " + what + ")", x.year(pay, what), want);
    calls++;
  }

  private void proof(int spell) {
    int want = !isSpell(spell) ? refuseSum(-1)
        : model.spells.get(spell).shown() ? refuseSum(-3)
        : model.proof(spell);
    due("proof(" + spell + ")", x.proof(spell), want);
    calls++;
  }

  /** A row near what is owed, so that it is judged far behind land 0 now and then. */
  private void tellRow() {
    int[] owed = model.owed();
    int sums = oneIn(3) ? next(8) : 6;
    for (int land = 0; land < sums; land++) {
      put(oneIn(12) ? upTo(9999) : owed[Math.min(5, land)] + (oneIn(20) ? 1 : 0));
    }
    if (!oneIn(5)) {
      due("judge()", x.judge(), model.judge(row));
      row.clear();
      calls++;
    }
  }

  private void put(int v) {
    int want;
    if (v < 0) {
      want = refuse(-4);
    } else if (v > 9999 || row.size() == 6) {
      want = refuse(-6);
    } else {
      row.add(v);
      want = row.size();
    }
    due("put(" + v + ")", x.put(v), want);
    calls++;
  }

  private void image() {
    if (oneIn(3)) {
      image = model.copy();
      due("image()", x.image(), model.spells.size());
    } else {
      model = image == null ? model : image.copy();
      due("on()", x.on(), image == null ? refuse(-3) : model.spells.size());
    }
    calls++;
  }

  private void count(int what) {
    int shown = (int) model.spells.stream().filter(Model.Spell::shown).count();
    int[] counts = {model.spells.size(), shown, model.pacts(), tape.length(), row.size(), model.behind()};
    int want = what >= 0 && what <= 5 ? counts[what] : what > 10 && what < 17 ? refused[what - 10] : -9;
    due("count(" + what + ")", x.count(what), want);
    calls++;
  }
}
