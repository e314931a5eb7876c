import java.util.Arrays;

/** A life of work in six lands, and what each land's law gives for it: the promises of ../shared/DOC.md. */
public final class NineLands {
  private static final int LANDS = 6;
  private static final int MONTHS = 900;
  private static final int LAST_MONTH = 1200;
  private static final int YEAR_MONTHS = 12;
  private static final int MOST_YEARS_LATER = 10;
  private static final int MOST_EDGE = 120;
  private static final int MOST_SPELLS = 20;
  private static final int MOST_BYTES = 16;
  private static final int MOST_FED = 8;
  private static final int MOST_DIGITS = 3;
  private static final int MOST_PAY = 999;
  private static final int MOST_SUM = 9999;
  private static final int MOST_TURNS = 20;

  private static final int NOBODY = -1;
  private static final int OTHER = -2;
  private static final int STATE = -3;
  private static final int BELOW = -4;
  private static final int ROOM = -6;
  private static final int REFUSALS = 6;
  private static final int NONE = -9;
  private static final int FAULT = -20;
  private static final int REFUSED_SUM = 1000000000;

  // The columns of a spell stand as spellOf() numbers them.
  private static final int LAND = 0;
  private static final int WORK = 1;
  private static final int FROM = 2;
  private static final int TILL = 3;
  private static final int PAY = 4;
  private static final int PAID_IN = 5;
  private static final int SHOWN = 6;
  private static final int COLUMNS = 7;

  private static final String LAND_SIGNS = "012345";
  private static final String WORK_SIGNS = "sfab";
  private static final int BENCH = 3;

  private static final int NEEDS = 0;
  private static final int AGE = 1;
  private static final int RATE = 2;
  private static final int LEAST = 3;
  private static final int TOP = 4;
  private static final int OFF = 5;
  private static final int AWAY = 6;
  private static final int LATER = 7;
  private static final int WORKS = 8;
  private static final int LAWS = 9;
  private static final int[] LAW_AT_FIRST = {120, 780, 10, 0, 9999, 0, 0, 0, 15};
  private static final int[] LAW_AT_MOST = {900, 900, 99, 9999, 9999, 100, 100, 50, 15};

  private static final int OWN = 0;
  private static final int LEAST_KIND = 1;
  private static final int PUT = 2;
  private static final int MORE = 3;
  private static final int LESS = 4;
  private static final int BOTH = 5;
  private static final int KINDS = 6;

  private final Tape tape = new Tape();
  private final Book book = new Book();
  private final Book kept = new Book();
  private final Sums sums = new Sums();
  private final int[] row = new int[LANDS];
  private final int[] refused = new int[REFUSALS + 1];
  private int rowLength = 0;
  private boolean hasKept = false;

  /** The bytes that have come, and how a spell is read from them. */
  private static final class Tape {
    private final int[] bytes = new int[MOST_BYTES];
    private int length = 0;
    private int place = 0;

    /** Fills a spell's columns; if the text has a fault, false, and the fault's place is where reading stands. */
    private boolean readInto(int[] spell) {
      place = 0;
      boolean stands = readChoice(spell, LAND, LAND_SIGNS)
          && readChoice(spell, WORK, WORK_SIGNS)
          && readNumber(spell, FROM)
          && readSign('-')
          && readTill(spell)
          && readSign('*')
          && readNumber(spell, PAY);
      if (!stands) {
        return false;
      }
      spell[PAID_IN] = readSign('!') ? 0 : 1;
      spell[SHOWN] = 1;
      return place == length;
    }

    private boolean readChoice(int[] spell, int column, String signs) {
      int choice = place < length ? signs.indexOf((char) bytes[place]) : -1;
      if (choice < 0) {
        return false;
      }
      spell[column] = choice;
      place++;
      return true;
    }

    private boolean readSign(char sign) {
      if (place >= length || bytes[place] != sign) {
        return false;
      }
      place++;
      return true;
    }

    private boolean readNumber(int[] spell, int column) {
      int number = 0;
      int digits = 0;
      while (digits < MOST_DIGITS && place < length && bytes[place] >= '0' && bytes[place] <= '9') {
        number = number * 10 + bytes[place] - '0';
        digits++;
        place++;
      }
      spell[column] = number;
      return digits > 0;
    }

    private boolean readTill(int[] spell) {
      int first = place;
      if (!readNumber(spell, TILL)) {
        return false;
      }
      if (spell[TILL] > spell[FROM] && spell[TILL] <= MONTHS) {
        return true;
      }
      // Only the whole number shows that it can't be, yet the fault is told at its first digit.
      place = first;
      return false;
    }
  }

  /** All that is told of a life, and all that an image holds. */
  private static final class Book {
    private final int[][] spells = new int[MOST_SPELLS][COLUMNS];
    private final int[][] laws = new int[LANDS][LAWS];
    private final int[] kinds = new int[LANDS];
    private final int[][] pacts = new int[LANDS][LANDS];
    private int written = 0;

    private Book() {
      for (int land = 0; land < LANDS; land++) {
        System.arraycopy(LAW_AT_FIRST, 0, laws[land], 0, LAWS);
      }
    }

    private void copyFrom(Book other) {
      written = other.written;
      for (int spell = 0; spell < MOST_SPELLS; spell++) {
        System.arraycopy(other.spells[spell], 0, spells[spell], 0, COLUMNS);
      }
      for (int land = 0; land < LANDS; land++) {
        System.arraycopy(other.laws[land], 0, laws[land], 0, LAWS);
        System.arraycopy(other.pacts[land], 0, pacts[land], 0, LANDS);
      }
      System.arraycopy(other.kinds, 0, kinds, 0, LANDS);
    }

    private int shownSpells() {
      int shown = 0;
      for (int spell = 0; spell < written; spell++) {
        shown += spells[spell][SHOWN];
      }
      return shown;
    }

    private int madePacts() {
      int made = 0;
      for (int a = 0; a < LANDS; a++) {
        for (int b = 0; b < a; b++) {
          made += pacts[a][b];
        }
      }
      return made;
    }

    /** The month behind all spells, shown or not. */
    private int behind() {
      int month = 0;
      for (int spell = 0; spell < written; spell++) {
        month = Math.max(month, spells[spell][TILL]);
      }
      return month;
    }

    /** The first month above this one in which a spell begins or has ended, or the end of all months. */
    private int nextChange(int month) {
      int next = MONTHS;
      for (int i = 0; i < written; i++) {
        int[] spell = spells[i];
        if (spell[FROM] > month) {
          next = Math.min(next, spell[FROM]);
        }
        if (spell[TILL] > month) {
          next = Math.min(next, spell[TILL]);
        }
      }
      return next;
    }

    private boolean isHeld(int spell, int month) {
      int[] held = spells[spell];
      return held[SHOWN] == 1 && held[FROM] <= month && month < held[TILL];
    }

    /** How many spells that are shown hold a month. */
    private int holders(int month) {
      int holders = 0;
      for (int spell = 0; spell < written; spell++) {
        if (isHeld(spell, month)) {
          holders++;
        }
      }
      return holders;
    }

    private boolean workCounts(int land, int work) {
      return (laws[land][WORKS] >> work & 1) == 1;
    }

    /** The pay of a month that counts in a land; NONE, if it doesn't count. */
    private int payAt(int land, int month) {
      int pay = NONE;
      for (int i = 0; i < written; i++) {
        int[] spell = spells[i];
        boolean isOfLand = spell[LAND] == land && spell[PAID_IN] == 1 && workCounts(land, spell[WORK]);
        if (isOfLand && isHeld(i, month)) {
          pay = Math.max(pay, spell[PAY]);
        }
      }
      return pay;
    }
  }

  /** What the months of a book come to for each land, and what the lands owe for them. */
  private static final class Sums {
    private final int[] payHere = new int[LANDS];
    private final int[] months = new int[LANDS];
    private final int[] pays = new int[LANDS];
    private final int[] putMonths = new int[LANDS];
    private final int[] putPays = new int[LANDS];
    private final int[] whole = new int[LANDS];
    private final int[] owes = new int[LANDS];
    private int overMonths = 0;
    private int firstOver = NONE;
    private boolean isAtRest = true;

    /** Goes by stretches in which no spell begins or ends, for all months of one count alike. */
    private void reckon(Book book) {
      clear();
      int month = 0;
      for (int stretch = 0; stretch <= 2 * MOST_SPELLS && month < MONTHS; stretch++) {
        int next = book.nextChange(month);
        addStretch(book, month, next - month);
        month = next;
      }
    }

    private void clear() {
      Arrays.fill(months, 0);
      Arrays.fill(pays, 0);
      Arrays.fill(putMonths, 0);
      Arrays.fill(putPays, 0);
      overMonths = 0;
      firstOver = NONE;
    }

    private void addStretch(Book book, int month, int length) {
      for (int land = 0; land < LANDS; land++) {
        payHere[land] = book.payAt(land, month);
      }
      for (int land = 0; land < LANDS; land++) {
        addOwn(land, length);
        addPut(book, land, length);
      }
      if (book.holders(month) >= 2) {
        overMonths += length;
        firstOver = firstOver == NONE ? month : firstOver;
      }
    }

    private void addOwn(int land, int length) {
      if (payHere[land] != NONE) {
        months[land] += length;
        pays[land] += length * payHere[land];
      }
    }

    private void addPut(Book book, int land, int length) {
      int pay = payPut(book, land);
      if (pay != NONE) {
        putMonths[land] += length;
        putPays[land] += length * pay;
      }
    }

    private int payPut(Book book, int land) {
      if (payHere[land] != NONE) {
        return payHere[land];
      }
      for (int other = 0; other < LANDS; other++) {
        if (book.pacts[land][other] == 1 && payHere[other] != NONE) {
          return payHere[other];
        }
      }
      return NONE;
    }

    /** Bench work behind all spells: as no spell holds its months, they only add to what is reckoned. */
    private void addBench(Book book, int land, int length, int pay) {
      if (!book.workCounts(land, BENCH)) {
        return;
      }
      months[land] += length;
      pays[land] += length * pay;
      for (int other = 0; other < LANDS; other++) {
        if (other == land || book.pacts[other][land] == 1) {
          putMonths[other] += length;
          putPays[other] += length * pay;
        }
      }
    }

    /** Lets the lands owe in turns, and tells what all owe together then. */
    private int settle(Book book) {
      for (int land = 0; land < LANDS; land++) {
        whole[land] = dueWhole(book.laws[land], land, book.kinds[land]);
      }
      Arrays.fill(owes, 0);
      isAtRest = false;
      for (int turn = 0; turn < MOST_TURNS && !isAtRest; turn++) {
        isAtRest = !changesInTurn(book);
      }
      return sumOf(owes);
    }

    private boolean changesInTurn(Book book) {
      boolean changes = false;
      int together = sumOf(owes);
      for (int land = 0; land < LANDS; land++) {
        int others = together - owes[land];
        int due = lessOthers(book.laws[land], book.kinds[land], whole[land], others);
        changes = changes || due != owes[land];
        owes[land] = due;
        together = others + due;
      }
      return changes;
    }

    /** What a land owes by a kind, if the others owe that much together. */
    private int dueBy(Book book, int land, int kind, int others) {
      int[] laws = book.laws[land];
      return lessOthers(laws, kind, dueWhole(laws, land, kind), others);
    }

    /** What a land owes by a kind before anything is taken off for the others. */
    private int dueWhole(int[] laws, int land, int kind) {
      boolean hasRight = hasRight(laws, months[land]);
      int own = hasRight ? byRate(laws, pays[land]) : 0;
      int least = hasRight ? Math.max(own, laws[LEAST]) : 0;
      switch (kind) {
        case OWN: return own;
        case LEAST_KIND:
        case LESS: return least;
        case PUT: return duePut(laws, land);
        case MORE:
        case BOTH: return Math.max(duePut(laws, land), least);
        default: return 0;
      }
    }

    private int duePut(int[] laws, int land) {
      int together = putMonths[land];
      // A right holds one month at least, yet a divisor is looked at where it divides.
      if (!hasRight(laws, together) || together < 1) {
        return 0;
      }
      return Math.max(byRate(laws, putPays[land]), laws[LEAST]) * months[land] / together;
    }

    private static boolean hasRight(int[] laws, int months) {
      return months >= 1 && months >= laws[NEEDS];
    }

    private static int byRate(int[] laws, int pays) {
      return Math.min(laws[RATE] * pays / 100, laws[TOP]);
    }

    private static int lessOthers(int[] laws, int kind, int due, int others) {
      boolean takesOff = kind == LESS || kind == BOTH;
      return takesOff ? Math.max(0, due - laws[OFF] * others / 100) : due;
    }
  }

  public NineLands() {
  }

  public int feed(int n, long bytes) {
    if (n < 1) {
      return refuse(BELOW);
    }
    if (n > MOST_FED || n > MOST_BYTES - tape.length) {
      return refuse(ROOM);
    }
    for (int i = 0; i < n; i++) {
      tape.bytes[tape.length] = (int) (bytes >>> 8 * i & 255);
      tape.length++;
    }
    return tape.length;
  }

  public int spell() {
    if (book.written >= MOST_SPELLS) {
      return refuse(ROOM);
    }
    // A row that is read only in part stands behind the written ones, where nobody looks.
    boolean stands = tape.readInto(book.spells[book.written]);
    tape.length = 0;
    if (!stands) {
      return FAULT - tape.place;
    }
    book.written++;
    return book.written - 1;
  }

  public int spellOf(int spell, int what) {
    if (!isSpell(spell)) {
      return refuse(NOBODY);
    }
    if (what < 0 || what >= COLUMNS) {
      return refuse(OTHER);
    }
    return book.spells[spell][what];
  }

  public int show(int spell, boolean is) {
    if (!isSpell(spell)) {
      return refuse(NOBODY);
    }
    int was = book.spells[spell][SHOWN];
    book.spells[spell][SHOWN] = is ? 1 : 0;
    return book.spells[spell][SHOWN] == was ? 0 : 1;
  }

  public int law(int land, int law, int v) {
    if (!isLand(land) || law < 0 || law >= LAWS) {
      return refuse(NOBODY);
    }
    if (v < 0) {
      return refuse(BELOW);
    }
    if (v > LAW_AT_MOST[law]) {
      return refuse(ROOM);
    }
    int was = book.laws[land][law];
    book.laws[land][law] = v;
    return was;
  }

  public int kind(int land, int kind) {
    if (!isLand(land)) {
      return refuse(NOBODY);
    }
    if (!isKind(kind)) {
      return refuse(OTHER);
    }
    int was = book.kinds[land];
    book.kinds[land] = kind;
    return was;
  }

  public int pact(int a, int b, boolean is) {
    if (!isLand(a) || !isLand(b) || a == b) {
      return refuse(NOBODY);
    }
    int was = book.pacts[a][b];
    book.pacts[a][b] = is ? 1 : 0;
    book.pacts[b][a] = book.pacts[a][b];
    return book.pacts[a][b] == was ? 0 : 1;
  }

  public int counts(int land, int what) {
    if (!isLand(land)) {
      return refuse(NOBODY);
    }
    if (what < 0 || what > 3) {
      return refuse(OTHER);
    }
    sums.reckon(book);
    switch (what) {
      case 0: return sums.months[land];
      case 1: return sums.pays[land];
      case 2: return sums.putMonths[land];
      default: return sums.putPays[land];
    }
  }

  public int month(int land, int month) {
    if (!isLand(land)) {
      return refuse(NOBODY);
    }
    if (month < 0) {
      return refuse(BELOW);
    }
    if (month >= MONTHS) {
      return refuse(ROOM);
    }
    return book.payAt(land, month);
  }

  public int over(int what) {
    if (what < 0 || what > 1) {
      return refuse(OTHER);
    }
    sums.reckon(book);
    return what == 0 ? sums.overMonths : sums.firstOver;
  }

  public int alone(int land, int kind) {
    if (!isLand(land)) {
      return refuse(NOBODY);
    }
    if (!isKind(kind)) {
      return refuse(OTHER);
    }
    sums.reckon(book);
    return sums.dueBy(book, land, kind, 0);
  }

  public int lacks(int land, boolean put) {
    if (!isLand(land)) {
      return refuse(NOBODY);
    }
    sums.reckon(book);
    int has = put ? sums.putMonths[land] : sums.months[land];
    return Math.max(0, Math.max(1, book.laws[land][NEEDS]) - has);
  }

  public int owed(int land) {
    if (!isLand(land)) {
      return refuse(NOBODY);
    }
    owedByAll();
    return sums.owes[land];
  }

  public int rests() {
    owedByAll();
    return sums.isAtRest ? 1 : 0;
  }

  public int all() {
    return owedByAll();
  }

  public int asks(int land, int month, int last) {
    if (!isLand(land)) {
      return refuse(NOBODY);
    }
    if (month < book.laws[land][AGE] || last < 0) {
      return refuse(BELOW);
    }
    if (month > MONTHS || last > LAST_MONTH) {
      return refuse(ROOM);
    }
    owedByAll();
    return paidFrom(land, month, last);
  }

  public int when(int land, int last) {
    if (!isLand(land)) {
      return refuse(NOBODY);
    }
    if (last < 0) {
      return refuse(BELOW);
    }
    if (last > LAST_MONTH) {
      return refuse(ROOM);
    }
    owedByAll();
    int best = NONE;
    int most = 0;
    for (int year = 0; year <= MOST_YEARS_LATER; year++) {
      int month = book.laws[land][AGE] + year * YEAR_MONTHS;
      int paid = month > MONTHS ? 0 : paidFrom(land, month, last);
      if (paid > most) {
        most = paid;
        best = month;
      }
    }
    return best;
  }

  public int lives(int land) {
    if (!isLand(land)) {
      return refuse(NOBODY);
    }
    owedByAll();
    return paidLivingIn(land);
  }

  public int where() {
    owedByAll();
    int best = 0;
    for (int land = 1; land < LANDS; land++) {
      if (paidLivingIn(land) > paidLivingIn(best)) {
        best = land;
      }
    }
    return best;
  }

  public int edge(int land, int pay) {
    if (!isLand(land)) {
      return refuse(NOBODY);
    }
    if (pay < 0) {
      return refuse(BELOW);
    }
    if (pay > MOST_PAY) {
      return refuse(ROOM);
    }
    if (book.written >= MOST_SPELLS) {
      return refuse(STATE);
    }
    owedByAll();
    int now = sums.owes[land];
    int most = Math.min(MOST_EDGE, MONTHS - book.behind());
    for (int more = 1; more <= most; more++) {
      sums.addBench(book, land, 1, pay);
      sums.settle(book);
      if (sums.owes[land] > now) {
        return more;
      }
    }
    return NONE;
  }

  public int hangs() {
    int least = owedByAll();
    int first = NONE;
    for (int spell = 0; spell < book.written; spell++) {
      int without = owedByAllIf(spell, 0);
      if (without < least) {
        least = without;
        first = spell;
      }
    }
    return first;
  }

  public int year(int pay, int what) {
    if (what < 0 || what > 1) {
      return refuseSum(OTHER);
    }
    if (pay < 0) {
      return refuseSum(BELOW);
    }
    if (pay > MOST_PAY) {
      return refuseSum(ROOM);
    }
    if (book.written >= MOST_SPELLS || book.behind() >= MONTHS) {
      return refuseSum(STATE);
    }
    int now = owedByAll();
    int best = 0;
    int most = owedByAllWithYear(0, pay);
    for (int land = 1; land < LANDS; land++) {
      int with = owedByAllWithYear(land, pay);
      if (with > most) {
        most = with;
        best = land;
      }
    }
    return what == 0 ? best : most - now;
  }

  public int proof(int spell) {
    if (!isSpell(spell)) {
      return refuseSum(NOBODY);
    }
    if (book.spells[spell][SHOWN] == 1) {
      return refuseSum(STATE);
    }
    int now = owedByAll();
    return owedByAllIf(spell, 1) - now;
  }

  public int put(int v) {
    if (v < 0) {
      return refuse(BELOW);
    }
    if (v > MOST_SUM || rowLength >= LANDS) {
      return refuse(ROOM);
    }
    row[rowLength] = v;
    rowLength++;
    return rowLength;
  }

  public int judge() {
    // What the row lacks counts as 0, and the row is empty whatever is found.
    Arrays.fill(row, rowLength, LANDS, 0);
    int length = rowLength;
    rowLength = 0;
    sums.reckon(book);
    int whole = sumOf(row);
    for (int land = 0; land < LANDS; land++) {
      if (land >= length || row[land] != sums.dueBy(book, land, book.kinds[land], whole - row[land])) {
        return land;
      }
    }
    return NONE;
  }

  public int image() {
    kept.copyFrom(book);
    hasKept = true;
    return book.written;
  }

  public int on() {
    if (!hasKept) {
      return refuse(STATE);
    }
    book.copyFrom(kept);
    return book.written;
  }

  public int count(int what) {
    switch (what) {
      case 0: return book.written;
      case 1: return book.shownSpells();
      case 2: return book.madePacts();
      case 3: return tape.length;
      case 4: return rowLength;
      case 5: return book.behind();
      default: return what > 10 && what <= 10 + REFUSALS ? refused[what - 10] : NONE;
    }
  }

  private int refuse(int refusal) {
    refused[-refusal]++;
    return refusal;
  }

  /** The refusal of a call whose answer may be any sum, less than nothing too. */
  private int refuseSum(int refusal) {
    return REFUSED_SUM - refuse(refusal);
  }

  private boolean isSpell(int spell) {
    return spell >= 0 && spell < book.written;
  }

  private static boolean isLand(int land) {
    return land >= 0 && land < LANDS;
  }

  private static boolean isKind(int kind) {
    return kind >= 0 && kind < KINDS;
  }

  private int owedByAll() {
    sums.reckon(book);
    return sums.settle(book);
  }

  private int owedByAllIf(int spell, int shown) {
    int was = book.spells[spell][SHOWN];
    book.spells[spell][SHOWN] = shown;
    int owed = owedByAll();
    book.spells[spell][SHOWN] = was;
    return owed;
  }

  private int owedByAllWithYear(int land, int pay) {
    sums.reckon(book);
    sums.addBench(book, land, Math.min(YEAR_MONTHS, MONTHS - book.behind()), pay);
    return sums.settle(book);
  }

  /** All that a land pays to the last month of life to one who asks in a month; what it owes is settled before. */
  private int paidFrom(int land, int month, int last) {
    int[] laws = book.laws[land];
    int hundredths = 100 + laws[LATER] * ((month - laws[AGE]) / YEAR_MONTHS);
    int sum = sums.owes[land] * hundredths / 100;
    return sum * Math.max(0, last - month + 1);
  }

  /** All that is paid to one who lives in a land; what the lands owe is settled before. */
  private int paidLivingIn(int land) {
    int paid = 0;
    for (int other = 0; other < LANDS; other++) {
      int owed = sums.owes[other];
      int less = other == land ? 0 : owed * book.laws[other][AWAY] / 100;
      paid += owed - less;
    }
    return paid;
  }

  private static int sumOf(int[] numbers) {
    int sum = 0;
    for (int number : numbers) {
      sum += number;
    }
    return sum;
  }
}
