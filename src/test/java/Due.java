/** What the tests share: telling wrong answers, and feeding a spell's text. */
final class Due {
  private static int wrong = 0;
  private static String section = "";

  private Due() {
  }

  static void section(String name) {
    section = name;
  }

  static void due(String call, long got, long want) {
    if (got != want) {
      wrong++;
      System.out.println(section + ": " + call + " answered " + got + ", due is " + want);
    }
  }

  /** Ends the test's run: with exit code 1, if an answer was wrong. */
  static void end() {
    System.out.println(wrong == 0 ? "all answers are as due" : wrong + " answers are not as due");
    if (wrong != 0) {
      System.exit(1);
    }
  }

  /** Feeds a text of 16 bytes at most. */
  static void feed(NineLands x, String text) {
    for (int from = 0; from < text.length(); from += 8) {
      int n = Math.min(8, text.length() - from);
      long bytes = 0;
      for (int i = n - 1; i >= 0; i--) {
        bytes = bytes << 8 | text.charAt(from + i);
      }
      x.feed(n, bytes);
    }
  }

  static int spell(NineLands x, String text) {
    feed(x, text);
    return x.spell();
  }

  /** A new object with these spells. */
  static NineLands life(String... texts) {
    NineLands x = new NineLands();
    for (String text : texts) {
      spell(x, text);
    }
    return x;
  }

  /** A new object in which the lands from 0 on owe these sums: each by a month of its own and its least. */
  static NineLands owing(int... sums) {
    NineLands x = new NineLands();
    for (int land = 0; land < sums.length; land++) {
      spell(x, land + "b" + land + "-" + (land + 1) + "*0");
      x.law(land, 0, 0);
      x.law(land, 3, sums[land]);
      x.kind(land, 1);
    }
    return x;
  }
}
