import java.util.ArrayList;
import java.util.List;
import java.util.regex.Matcher;
import java.util.regex.Pattern;

/** The document's terms said a second time, month by month and as slowly as they are told; refusals are not here. */
final class Model {
  record Spell(int land, int work, int from, int till, int pay, boolean paidIn, boolean shown) {
    Spell shown(boolean is) {
      return new Spell(land, work, from, till, pay, paidIn, is);
    }
  }

  private static final Pattern TEXT = Pattern.compile("([0-5])([sfab])([0-9]{1,3})-([0-9]{1,3})\\*([0-9]{1,3})(!?)");
  private static final Pattern TO_TILL = Pattern.compile("[0-5][sfab]([0-9]{1,3})-([0-9]{1,3})");

  final List<Spell> spells = new ArrayList<>();
  final int[][] laws = new int[6][];
  final int[] kinds = new int[6];
  final boolean[][] pacts = new boolean[6][6];

  Model() {
    for (int land = 0; land < 6; land++) {
      laws[land] = new int[] {120, 780, 10, 0, 9999, 0, 0, 0, 15};
    }
  }

  Model copy() {
    Model copy = new Model();
    copy.spells.addAll(spells);
    for (int land = 0; land < 6; land++) {
      copy.laws[land] = laws[land].clone();
      copy.pacts[land] = pacts[land].clone();
      copy.kinds[land] = kinds[land];
    }
    return copy;
  }

  Model with(Spell more) {
    Model copy = copy();
    copy.spells.add(more);
    return copy;
  }

  Model shown(int spell, boolean is) {
    Model copy = copy();
    copy.spells.set(spell, copy.spells.get(spell).shown(is));
    return copy;
  }

  /** The place of a text's fault; -1, if it has none. */
  static int fault(String text) {
    Matcher toTill = TO_TILL.matcher(text);
    if (toTill.lookingAt()) {
      int from = Integer.parseInt(toTill.group(1));
      int till = Integer.parseInt(toTill.group(2));
      if (till <= from || till > 900) {
        return toTill.start(2);
      }
    }
    for (int end = 1; end <= text.length(); end++) {
      Matcher start = TEXT.matcher(text.substring(0, end));
      if (!start.matches() && !start.hitEnd()) {
        return end - 1;
      }
    }
    return TEXT.matcher(text).matches() ? -1 : text.length();
  }

  static Spell read(String text) {
    Matcher whole = TEXT.matcher(text);
    if (!whole.matches()) {
      throw new IllegalArgumentException(text);
    }
    return new Spell(Integer.parseInt(whole.group(1)), "sfab".indexOf(whole.group(2)), Integer.parseInt(whole.group(3)),
        Integer.parseInt(whole.group(4)), Integer.parseInt(whole.group(5)), whole.group(6).isEmpty(), true);
  }

  int behind() {
    return spells.stream().mapToInt(Spell::till).max().orElse(0);
  }

  int pacts() {
    int pacts = 0;
    for (int land = 0; land < 36; land++) {
      pacts += this.pacts[land / 6][land % 6] ? 1 : 0;
    }
    return pacts / 2;
  }

  private int[][] pays() {
    int[][] pays = new int[6][900];
    for (int[] ofLand : pays) {
      java.util.Arrays.fill(ofLand, -9);
    }
    for (Spell spell : spells) {
      boolean counts = spell.shown && spell.paidIn && (laws[spell.land][8] & 1 << spell.work) != 0;
      for (int month = spell.from; counts && month < spell.till; month++) {
        pays[spell.land][month] = Math.max(pays[spell.land][month], spell.pay);
      }
    }
    return pays;
  }

  int month(int land, int month) {
    return pays()[land][month];
  }

  int[] counts(int land) {
    return counts(land, pays());
  }

  private int[] counts(int land, int[][] pays) {
    int[] counts = new int[4];
    for (int month = 0; month < 900; month++) {
      int pay = pays[land][month];
      if (pay >= 0) {
        counts[0]++;
        counts[1] += pay;
      }
      for (int other = 0; other < 6 && pay < 0; other++) {
        pay = pacts[land][other] ? pays[other][month] : -9;
      }
      if (pay >= 0) {
        counts[2]++;
        counts[3] += pay;
      }
    }
    return counts;
  }

  int over(int what) {
    int over = 0;
    int first = -9;
    for (int month = 899; month >= 0; month--) {
      int held = month;
      if (spells.stream().filter(s -> s.shown && s.from <= held && held < s.till).count() >= 2) {
        over++;
        first = month;
      }
    }
    return what == 0 ? over : first;
  }

  int due(int land, int kind, int others, int[] counts) {
    int[] law = laws[land];
    boolean right = counts[0] >= Math.max(1, law[0]);
    boolean rightPut = counts[2] >= Math.max(1, law[0]);
    int own = right ? Math.min(law[4], law[2] * counts[1] / 100) : 0;
    int least = right ? Math.max(own, law[3]) : 0;
    int all = Math.max(law[3], Math.min(law[4], law[2] * counts[3] / 100));
    int put = rightPut ? all * counts[0] / counts[2] : 0;
    int more = Math.max(put, least);
    int off = law[5] * others / 100;
    return new int[] {own, least, put, more, Math.max(0, least - off), Math.max(0, more - off)}[kind];
  }

  int lacks(int land, boolean put) {
    return Math.max(0, Math.max(1, laws[land][0]) - counts(land)[put ? 2 : 0]);
  }

  /** What the six lands owe, and whether it rests. */
  int[] owed() {
    int[][] pays = pays();
    int[][] counts = new int[6][];
    for (int land = 0; land < 6; land++) {
      counts[land] = counts(land, pays);
    }
    int[] owed = new int[7];
    for (int turn = 1; turn <= 20; turn++) {
      int[] before = owed.clone();
      for (int land = 0; land < 6; land++) {
        owed[land] = due(land, kinds[land], others(owed, land), counts[land]);
      }
      if (java.util.Arrays.equals(before, owed)) {
        owed[6] = 1;
        return owed;
      }
    }
    return owed;
  }

  private static int others(int[] sums, int land) {
    int others = 0;
    for (int other = 0; other < 6; other++) {
      others += other == land ? 0 : sums[other];
    }
    return others;
  }

  int all() {
    int[] owed = owed();
    return owed[0] + others(owed, 0);
  }

  long asks(int land, int month, int last) {
    return asks(land, month, last, owed()[land]);
  }

  private long asks(int land, int month, int last, int owed) {
    long hundredths = 100;
    for (int later = laws[land][1] + 12; later <= month; later += 12) {
      hundredths += laws[land][7];
    }
    long sum = owed * hundredths / 100;
    long paid = 0;
    for (int paidMonth = month; paidMonth <= last; paidMonth++) {
      paid += sum;
    }
    return paid;
  }

  int when(int land, int last) {
    int owed = owed()[land];
    int best = -9;
    long most = 0;
    for (int month = laws[land][1]; month <= Math.min(900, laws[land][1] + 120); month += 12) {
      long paid = asks(land, month, last, owed);
      if (paid > most) {
        best = month;
        most = paid;
      }
    }
    return best;
  }

  int lives(int land) {
    int[] owed = owed();
    int paid = 0;
    for (int other = 0; other < 6; other++) {
      paid += owed[other];
      paid -= other == land ? 0 : laws[other][6] * owed[other] / 100;
    }
    return paid;
  }

  int where() {
    int best = 0;
    for (int land = 5; land >= 0; land--) {
      best = lives(land) >= lives(best) ? land : best;
    }
    return best;
  }

  private Model withBench(int land, int months, int pay) {
    return with(new Spell(land, 3, behind(), Math.min(900, behind() + months), pay, true, true));
  }

  int edge(int land, int pay) {
    int now = owed()[land];
    for (int months = 1; months <= 120; months++) {
      if (withBench(land, months, pay).owed()[land] > now) {
        return months;
      }
    }
    return -9;
  }

  int hangs() {
    int least = all();
    int first = -9;
    for (int spell = 0; spell < spells.size(); spell++) {
      Model without = copy();
      without.spells.remove(spell);
      if (without.all() < least) {
        least = without.all();
        first = spell;
      }
    }
    return first;
  }

  int year(int pay, int what) {
    int best = 0;
    for (int land = 5; land >= 0; land--) {
      best = withBench(land, 12, pay).all() >= withBench(best, 12, pay).all() ? land : best;
    }
    return what == 0 ? best : withBench(best, 12, pay).all() - all();
  }

  int proof(int spell) {
    return shown(spell, true).all() - all();
  }

  int judge(List<Integer> row) {
    int[] sums = new int[6];
    for (int land = 0; land < row.size(); land++) {
      sums[land] = row.get(land);
    }
    for (int land = 0; land < 6; land++) {
      if (land == row.size() || due(land, kinds[land], others(sums, land), counts(land)) != sums[land]) {
        return land;
      }
    }
    return -9;
  }
}
