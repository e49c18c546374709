/** Calls with the answers that are due, and texts for the tape. */
final class Due {
  private static int wrong = 0;
  private static int asked = 0;

  private Due() { }

  static void is(int promise, String what, long got, long want) {
    asked++;
    if (got != want) {
      wrong++;
      System.out.println("promise " + promise + ", " + what + ": answered " + got + ", due is " + want);
    }
  }

  static void is(int promise, String what, boolean got, boolean want) {
    is(promise, what, got ? 1 : 0, want ? 1 : 0);
  }

  static void end() {
    System.out.println(asked + " answers, " + wrong + " not as due");
    if (wrong != 0) {
      System.exit(1);
    }
  }

  /** Feeds a text, filled up with zero bytes to the next twenty. */
  static int feed(RowAuditor x, String text) {
    int size = x.count(8);
    for (int p = 0; p < text.length(); p += 20) {
      int[] w = words(text, p);
      size = x.feed(w[0], w[1], w[2], w[3], w[4]);
    }
    return size;
  }

  /** Twenty bytes of a text from a place on as five ints, with zero bytes behind its end. */
  static int[] words(String text, int place) {
    int[] words = new int[5];
    for (int k = 0; k < 20; k++) {
      int sign = place + k < text.length() ? text.charAt(place + k) : 0;
      words[k / 4] = words[k / 4] << 8 | sign;
    }
    return words;
  }

  static int rule(RowAuditor x, int from, int to, String text) {
    feed(x, text);
    return x.rule(from, to, text.length());
  }

  static int rule(RowAuditor x, String text) {
    return rule(x, 0, 3999, text);
  }

  static int chain(RowAuditor x, String text) {
    feed(x, text);
    return x.chain(text.length());
  }

  static int parted(RowAuditor x, int sum, int... rows) {
    StringBuilder b = new StringBuilder();
    for (int i : rows) {
      b.append((char) i);
    }
    feed(x, b.toString());
    return x.parted(sum, rows.length);
  }

  /** Whether a C holds for ROW i as KNOWN on t: told by a rule of its own on a new RULE number. */
  static boolean meets(RowAuditor x, String c, int i, int t) {
    int r = rule(x, "r(" + c + ")");
    return x.broken(i, t) == r;
  }
}
