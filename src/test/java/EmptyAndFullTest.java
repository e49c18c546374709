import java.util.List;

/**
 * Nothing told yet, and all that may be told: the last of each kind is taken, the next one is refused, and what is
 * refused changes nothing.
 */
public final class EmptyAndFullTest {
  private static final int NONE = -1;
  private static final int NO_SUM = -1000000000;
  private static final int DAYS = 3999;
  private static final String RULE = "r(s>100&s<500|s=106)";
  private static final String CHAIN = "(s>100&s<500|s=106);";
  private static final String STEPS = "(s>100&s<50);(s=1)pw";

  private EmptyAndFullTest() { }

  public static void main(String[] args) {
    nothingTold();
    refusedOnNothing();
    nothingButHouses();
    nothingKnown();
    oneBesideAnother();
    tenHouses();
    allRows();
    allMendings();
    mendingsOfOneRow();
    allRules();
    allChains();
    allAskings();
    allReadings();
    wholeTape();
    everything();
    Due.end();
  }

  // ---- nothing told yet ----

  /** "A new object: DAY 0; no HOUSES, ROWS, RULES." */
  private static void nothingTold() {
    asNew(new Scene());
    Due.is(1, "NONE", RowAuditor.NONE, -1);
  }

  private static void asNew(Scene s) {
    for (int what = -1; what <= 50; what++) {
      Due.is(36, "count(" + what + ")", s.call(36, what), what >= 0 && what <= 8 ? 0 : NONE);
    }
    for (int t : new int[] {0, 1, DAYS}) {
      Due.is(6, "known", s.call(6, 0, t, 0), NONE);
      Due.is(6, "place", s.call(6, 0, t, 1), NONE);
      Due.is(7, "holds", s.call(7, 0, 0, t), NO_SUM);
      Due.is(10, "broken", s.call(10, 0, t), NONE);
      Due.is(12, "findings", s.call(12, t), 0);
      Due.is(13, "finding", s.call(13, t, 0), NONE);
    }
    Due.is(15, "followed", s.call(15, 0, 0, 1), NONE);
    Due.is(15, "followed", s.call(15, 0, 0, 0), NONE);
    Due.is(16, "rounds", s.call(16, 0, 0), 0);
    Due.is(16, "rounds", s.call(16, DAYS, 100), 0);
    Due.is(18, "fits", s.call(18, 0, 0, 0), NONE);
    Due.is(19, "fitted", s.call(19, 0, 0, 0, 0), NONE);
    for (int what = 0; what <= 5; what++) {
      Due.is(20, "ways", s.call(20, 0, 0, 0, what), NONE);
    }
    Due.is(21, "odd", s.call(21, 0, 0, 0, 0), NONE);
    for (int k = 0; k <= 15; k++) {
      Due.is(23, "a HAND and itself", s.call(23, k, 0, k, 0), 1);
      Due.is(23, "a HAND and the PAYEE of its number", s.call(23, k, 0, k, 1), 0);
      Due.is(24, "grown", s.call(24, k), 0);
      Due.is(29, "if false", s.call(29, k), 0);
    }
    Due.is(23, "PAYEES with nothing", s.call(23, 0, 1, 19, 1), 0);
    Due.is(23, "a PAYEE and itself", s.call(23, 19, 1, 19, 1), 1);
    for (int what : new int[] {0, 1, 2, 10}) {
      Due.is(25, "sample", s.call(25, 1, 0, what), NONE);
    }
    Due.is(28, "asked", s.call(28, 0), NONE);
    Due.is(31, "how many are PUT IN", s.call(31, 0), 0);
    Due.is(31, "how many are FOUND", s.call(31, 1), 0);
    Due.is(33, "best", s.call(33, 0), 0);
    Due.is(33, "best", s.call(33, 10000), 0);
    Due.is(34, "no READING is worth nothing", s.call(34, 0), 0);
    Due.is(34, "no such READING", s.call(34, 1), NONE);
    for (int what = 0; what <= 10; what++) {
      Due.is(35, "look", s.call(35, 0, what), NONE);
    }
  }

  /** Each call that wants something told before it is refused on a new object, and leaves it new. */
  private static void refusedOnNothing() {
    Scene s = new Scene();
    Due.is(2, "before day 0", s.call(2, -1), 0);
    for (int kind = 0; kind <= 3; kind++) {
      Due.is(4, "a ROW without a HOUSE", s.call(4, kind, 0, kind == 3 ? NONE : 1, 0, 0, 1, 0, NONE, NONE), NONE);
    }
    Due.is(5, "mend", s.call(5, 0, 1), 0);
    Due.is(5, "take out", s.call(5, 0, 0), 0);
    Due.is(9, "an empty tape", s.call(9, 0, 0, 1), NONE);
    Due.is(9, "no byte", s.call(9, 0, 0, 0), NONE);
    Due.is(11, "clear", s.call(11, 0, 0), 0);
    Due.is(14, "an empty tape", s.call(14, 0, 1), NONE);
    Due.is(14, "no byte", s.call(14, 0, 0), NONE);
    Due.is(17, "an empty tape", s.call(17, 1), NONE);
    Due.is(17, "no byte", s.call(17, 0), NONE);
    Due.is(26, "ask", s.call(26, 0, 0, 1), NONE);
    Due.is(27, "answer", s.call(27, 0, 0), 0);
    Due.is(30, "put in", s.call(30, 0), 0);
    Due.is(32, "a READING that wants one", s.call(32, 1, 1, 0), NONE);
    asNew(s);
    Due.is(3, "the first HOUSE", s.call(3, 7), 0);
    Due.is(4, "the first ROW", s.call(4, 3, 0, NONE, 0, 0, 1, 0, NONE, NONE), 0);
    Due.is(26, "the first ASKING", s.call(26, 0, 0, 1), 0);
    Due.is(32, "the first READING", s.call(32, 1, 1, NONE), 0);
  }

  /** HOUSES and texts, but no ROW. */
  private static void nothingButHouses() {
    Scene s = new Scene();
    s.call(3, 5);
    s.call(3, 0);
    s.rule(0, DAYS, "r(1=1)");
    s.chain("(1=1)");
    Due.is(7, "holds", s.call(7, 0, 0, 0), 5);
    Due.is(7, "holds", s.call(7, 0, DAYS, DAYS), 5);
    Due.is(12, "findings", s.call(12, 0), 0);
    Due.is(13, "finding", s.call(13, 0, 0), NONE);
    Due.is(15, "its own", s.call(15, 0, 0, 1), 5);
    Due.is(15, "its own, at least", s.call(15, 0, 0, 0), 5);
    Due.is(15, "elsewhere", s.call(15, 0, 1, 1), 0);
    Due.is(15, "of one that has none", s.call(15, 1, 1, 1), 0);
    Due.is(16, "rounds", s.call(16, DAYS, 100), 0);
    Due.is(18, "fits", s.call(18, 0, DAYS, 0), 0);
    Due.is(19, "fitted", s.call(19, 0, DAYS, 0, 0), NONE);
    long[] ways = {1, 1, 0, 0, 0, 0};
    for (int what = 0; what <= 5; what++) {
      Due.is(20, "ways to take none of none, " + what, s.call(20, 0, 0, 0, what), ways[what]);
    }
    Due.is(21, "one of one way", s.call(21, 0, 0, 0, 1000), 1);
    Due.is(21, "one of one way", s.call(21, 0, 0, 0, 999), 0);
    Due.is(25, "no ROW is KNOWN", s.call(25, 1, 0, 0), NONE);
    s.feed("\0");
    Due.is(14, "ROW 0 is none", s.call(14, 0, 1), -3);
    Due.is(14, "empty then", s.call(36, 8), 0);
  }

  /** A ROW, but TAKEN OUT: it can be looked at, cleared, PUT IN and asked about, and is KNOWN nowhere. */
  private static void nothingKnown() {
    Scene s = new Scene();
    s.call(3, 5);
    s.call(4, 0, 0, 0, 0, 0, 9, 0, NONE, NONE);
    s.rule(0, DAYS, "r(1=1)");
    s.chain("(1=1)");
    Due.is(5, "taken out", s.call(5, 0, 0), 1);
    Due.is(6, "not KNOWN", s.call(6, 0, 0, 0), NONE);
    Due.is(7, "only what it had", s.call(7, 0, 0, 0), 5);
    Due.is(10, "not KNOWN", s.call(10, 0, 0), NONE);
    Due.is(12, "no FINDING", s.call(12, 0), 0);
    Due.is(15, "nothing came", s.call(15, 0, 0, 1), 5);
    Due.is(18, "fits nothing", s.call(18, 0, 0, 0), 0);
    Due.is(20, "of none", s.call(20, 0, 0, 0, 4), 0);
    Due.is(25, "no ROW is KNOWN", s.call(25, 1, 0, 0), NONE);
    Due.is(24, "nothing came", s.call(24, 0), 0);
    Due.is(30, "PUT IN", s.call(30, 0), 1);
    Due.is(31, "but not KNOWN", s.call(31, 0), 0);
    Due.is(11, "CLEARED", s.call(11, 0, 0), 1);
    Due.is(26, "asked about", s.call(26, 0, 0, 1), 0);
    Due.is(28, "open", s.call(28, 0), 0);
    Due.is(35, "as it was told", s.call(35, 0, 5), 9);
    Due.is(36, "it is a ROW", s.call(36, 2), 1);
    Due.is(4, "its number is taken", s.call(4, 0, 0, 0, 0, 0, 9, 0, NONE, NONE), 1);
  }

  /** What one object was told and asked is nothing to another one. */
  private static void oneBesideAnother() {
    Scene one = new Scene();
    Scene full = Scene.told(RULE);
    List<Long> alone = Scene.told(RULE).answers(9, 0, DAYS, 20);
    asNew(one);
    Scene other = Scene.told(RULE);
    one.call(3, 77);
    one.call(2, DAYS);
    one.call(22, 1, 0, 8);
    List<Long> got = full.answers(9, 0, DAYS, 20);
    List<Long> later = other.answers(9, 0, DAYS, 20);
    for (int k = 0; k < alone.size(); k++) {
      Due.is(1, "beside another, answer " + k, got.get(k), alone.get(k));
      Due.is(1, "behind another, answer " + k, later.get(k), alone.get(k));
    }
    Due.is(7, "its own HOUSE", one.call(7, 0, 0, 0), 77);
    asNew(new Scene());
  }

  // ---- all that may be told ----

  /** The next one is refused, and all is as without it. */
  private static void refused(Scene s, List<Long> due, int[] reader, int answer, int promise, int... a) {
    Due.is(promise, "one too many", s.call(promise, a), answer);
    List<Long> got = s.answers(reader[0], java.util.Arrays.copyOfRange(reader, 1, reader.length));
    for (int k = 0; k < due.size(); k++) {
      Due.is(promise, "one too many: later answer " + k, got.get(k), due.get(k));
    }
  }

  private static final int[] BY_RULE = {9, 0, DAYS, 20};
  private static final int[] BY_CHAIN = {17, 20};

  private static void full(Filler filler, String tape, int[] reader, int answer, int promise, int... a) {
    Scene plain = Scene.told("");
    filler.fill(plain);
    plain.feed(tape);
    List<Long> due = plain.answers(reader[0], java.util.Arrays.copyOfRange(reader, 1, reader.length));
    Scene s = Scene.told("");
    filler.fill(s);
    s.feed(tape);
    refused(s, due, reader, answer, promise, a);
  }

  private interface Filler {
    void fill(Scene s);
  }

  /** "HOUSES 0 to 9", "10 are there". */
  private static void tenHouses() {
    full(s -> {
      for (int k = Scene.HOUSES; k < 10; k++) {
        Due.is(3, "HOUSE " + k, s.call(3, 1000000 - k), k);
      }
    }, RULE, BY_RULE, NONE, 3, 0);
    Scene s = new Scene();
    for (int k = 0; k < 10; k++) {
      s.call(3, 100 + k);
    }
    for (int k = 0; k < 10; k++) {
      Due.is(7, "HOUSE " + k + " has its own sum", s.call(7, k, 0, 0), 100 + k);
    }
    for (int k = 0; k < 10; k++) {
      Due.is(4, "HOUSE " + k + " pays", s.call(4, 2, k, (k + 9) % 10, 0, 0, 1 + k, 0, NONE, NONE), k);
    }
    for (int k = 0; k < 10; k++) {
      Due.is(7, "HOUSE " + k + " gave and got", s.call(7, k, 0, 0), 100 + k - (1 + k) + (1 + (k + 1) % 10));
    }
    Due.is(4, "HOUSE 10 is none", s.call(4, 3, 10, NONE, 0, 0, 1, 0, NONE, NONE), NONE);
    Due.is(7, "HOUSE 10 is none", s.call(7, 10, 0, 0), NO_SUM);
  }

  /** "ROWS 0 to 149", "150 are there". */
  private static void allRows() {
    full(s -> {
      for (int k = Scene.ROWS; k < 150; k++) {
        Due.is(4, "ROW " + k, s.call(4, 1, k % 3, k % 20, 10, k % 24, k, k % 16, NONE, NONE), k);
      }
    }, RULE, BY_RULE, NONE, 4, 1, 0, 1, 0, 0, 1, 0, NONE, NONE);
    Scene s = new Scene();
    s.call(3, 0);
    for (int k = 0; k < 150; k++) {
      s.call(4, 1, 0, 0, 0, 0, 1 + k, 0, NONE, NONE);
    }
    Due.is(6, "ROW 149 has its sum", s.call(6, 149, 0, 0), 150);
    Due.is(6, "ROW 149 is the last", s.call(6, 149, 0, 1), 149);
    Due.is(6, "ROW 150 is none", s.call(6, 150, 0, 0), NONE);
    Due.is(7, "all went", s.call(7, 0, 0, 0), -150 * 151 / 2);
    Due.is(5, "ROW 149 is mended", s.call(5, 149, 0), 1);
    Due.is(5, "ROW 150 is none", s.call(5, 150, 0), 0);
    Due.is(4, "TAKEN OUT, it leaves no place", s.call(4, 1, 0, 0, 0, 0, 1, 0, NONE, NONE), NONE);
    Due.is(11, "ROW 149", s.call(11, 149, 0), 1);
    Due.is(11, "ROW 150 is none", s.call(11, 150, 0), 0);
    Due.is(30, "ROW 149", s.call(30, 149), 1);
    Due.is(30, "ROW 150 is none", s.call(30, 150), 0);
    Due.is(26, "ROW 149", s.call(26, 0, 149, 1), 0);
    Due.is(26, "ROW 150 is none", s.call(26, 0, 150, 1), NONE);
    s.feed("\u0094\u0095\u0096");
    Due.is(14, "ROW 149 is not KNOWN", s.call(14, 0, 2), -3);
    s.feed("\u0094");
    Due.is(14, "ROW 148", s.call(14, 0, 1), 1);
  }

  /** "100 were told." */
  private static void allMendings() {
    full(s -> {
      for (int k = Scene.MENDINGS; k < 100; k++) {
        Due.is(5, "MENDING " + k, s.call(5, k % 5, 100 + k), 1);
      }
      Due.is(36, "MENDINGS", s.call(36, 4), 100);
    }, RULE, BY_RULE, 0, 5, 0, 5);
  }

  /** The hundredth counts, the 101st does not: not even one that would take out. */
  private static void mendingsOfOneRow() {
    Scene s = new Scene();
    s.call(3, 0);
    s.call(4, 0, 0, 0, 0, 0, 7, 0, NONE, NONE);
    s.call(4, 0, 0, 0, 0, 0, 7, 0, NONE, NONE);
    for (int k = 0; k < 99; k++) {
      s.call(5, 0, 1000 + k);
    }
    Due.is(36, "a refused one is not told", s.call(5, 0, 1000001) + s.call(36, 4), 99);
    Due.is(5, "the hundredth", s.call(5, 0, 3), 1);
    Due.is(5, "no more out", s.call(5, 0, 0), 0);
    Due.is(5, "nor another ROW", s.call(5, 1, 5), 0);
    Due.is(6, "the hundredth counts", s.call(6, 0, 0, 0), 3);
    Due.is(6, "the other one is as told", s.call(6, 1, 0, 0), 7);
    Due.is(36, "MENDINGS", s.call(36, 4), 100);
  }

  /** "RULES 0 to 19", "20 are there"; a FAULT's text takes no place. */
  private static void allRules() {
    Filler filler = s -> {
      for (int k = Scene.RULES; k < 20; k++) {
        Due.is(9, "RULE " + k, s.rule(k, k, "l(w=" + k + ");x" + (k - 1) + ".0"), k);
        Due.is(9, "a FAULT", k == 19 ? 0 : s.rule(k, k, "l(w="), k == 19 ? 0 : -1004);
      }
    };
    full(filler, STEPS, BY_CHAIN, NONE, 9, 0, DAYS, 1);
    full(filler, STEPS, BY_CHAIN, NONE, 9, 0, DAYS, 20);
    Scene s = new Scene();
    s.call(3, 0);
    s.call(4, 0, 0, 0, 0, 0, 7, 0, NONE, NONE);
    for (int k = 0; k < 20; k++) {
      s.rule(0, 0, k == 19 ? "x18.0" : "r(s=7)");
    }
    Due.is(10, "RULE 19 strikes in RULE 18", s.call(10, 0, 0), 17);
    Due.is(36, "CLAUSES of RULE 19", s.call(36, 39), 1);
    Due.is(20, "ways by RULE 18", s.call(20, 0, 0, 18, 5), 1);
    Due.is(20, "RULE 20 is none", s.call(20, 0, 0, 20, 5), NONE);
    s.feed("r(s=");
    Due.is(9, "what would be a FAULT is refused, too", s.call(9, 0, 0, 4), NONE);
    Due.is(36, "the tape stays", s.call(36, 8), 20);
  }

  /** "CHAINS 0 to 5", "6 are there". */
  private static void allChains() {
    Filler filler = s -> {
      for (int k = Scene.CHAINS; k < 6; k++) {
        Due.is(17, "CHAIN " + k, s.chain("(s>0);(s>" + k + ")"), k);
        Due.is(17, "a FAULT", k == 5 ? 0 : s.chain("(s>"), k == 5 ? 0 : -1003);
      }
    };
    full(filler, RULE, BY_RULE, NONE, 17, 1);
    full(filler, RULE, BY_RULE, NONE, 17, 20);
    Scene s = new Scene();
    s.call(3, 0);
    s.call(4, 0, 0, 0, 0, 0, 7, 0, NONE, NONE);
    for (int k = 0; k < 6; k++) {
      s.chain("(s=" + (k + 2) + ")");
    }
    Due.is(18, "CHAIN 5", s.call(18, 5, 0, 0), 1);
    Due.is(18, "CHAIN 4", s.call(18, 4, 0, 0), 0);
    Due.is(18, "CHAIN 6 is none", s.call(18, 6, 0, 0), NONE);
    Due.is(36, "STEPS of CHAIN 5", s.call(36, 45), 1);
    Due.is(36, "CHAIN 6 is none", s.call(36, 46), NONE);
    s.feed("(s");
    Due.is(17, "what would be a FAULT is refused, too", s.call(17, 2), NONE);
    Due.is(36, "the tape stays", s.call(36, 8), 20);
  }

  /** "ASKINGS 0 to 59", "60 are there". */
  private static void allAskings() {
    full(s -> {
      for (int k = Scene.ASKINGS; k < 60; k++) {
        Due.is(26, "ASKING " + k, s.call(26, k % 16, k % Scene.ROWS, 11 + k), k);
      }
    }, RULE, BY_RULE, NONE, 26, 0, 0, 11);
    Scene s = new Scene();
    s.call(3, 0);
    s.call(4, 0, 0, 0, 0, 0, 7, 0, NONE, NONE);
    for (int k = 0; k < 60; k++) {
      s.call(26, 0, 0, 1 + k);
    }
    Due.is(27, "ASKING 59", s.call(27, 59, 7), 1);
    Due.is(27, "ASKING 60 is none", s.call(27, 60, 7), 0);
    Due.is(28, "ASKING 59", s.call(28, 59), 3);
    Due.is(28, "ASKING 60 is none", s.call(28, 60), NONE);
    Due.is(26, "an ANSWER leaves no place", s.call(26, 0, 0, 1), NONE);
    s.call(2, 59);
    Due.is(28, "its DAY is past", s.call(28, 57), 1);
    Due.is(28, "its DAY is NOW", s.call(28, 58), 0);
  }

  /** "READINGS 0 to 8", "9 are there". */
  private static void allReadings() {
    full(s -> {
      for (int k = Scene.READINGS; k < 9; k++) {
        Due.is(32, "READING " + k, s.call(32, k, k, k - 1), k);
      }
    }, RULE, BY_RULE, NONE, 32, 1, 100000, NONE);
    Scene s = new Scene();
    for (int k = 0; k < 9; k++) {
      Due.is(32, "READING " + k, s.call(32, 1000, 100000, k - 1), k);
    }
    for (int k = 0; k <= 9; k++) {
      Due.is(33, k + " READINGS in a row", s.call(33, 1000 * k), (1 << k) - 1);
      Due.is(33, "an hour too few", k == 0 ? 0 : s.call(33, 1000 * k - 1), k == 0 ? 0 : (1 << k - 1) - 1);
      Due.is(34, "worth", s.call(34, (1 << k) - 1), 100000 * k);
      Due.is(34, "without the first", k < 2 ? -2 : s.call(34, (1 << k) - 2), -2);
    }
    Due.is(34, "set 512 is none", s.call(34, 512), NONE);
    Due.is(32, "a READING that wants the last", s.call(32, 1, 1, 8), NONE);
  }

  /** "NONE if that would be more than 200": 200 bytes, twenty by twenty. */
  private static void wholeTape() {
    full(s -> {
      for (int k = 0; k < 9; k++) {
        s.call(8, 1, 2, 3, 4, 5);
      }
      Due.is(36, "bytes of the tape", s.call(36, 8), 180);
    }, RULE, BY_RULE, NONE, 8, 6, 7, 8, 9, 10);
    Scene s = new Scene();
    String whole = "r(k=0&s=10)" + ";r(k=0&s=11)".repeat(8) + ";r(1=1&k=1&h=12345678&1=1" + "&1=1".repeat(20);
    s.feed(whole.substring(0, 180));
    Due.is(8, "the last twenty", s.call(8, 1, 1, 1, 1, 1), 200);
    Due.is(8, "no more", s.call(8, 2, 2, 2, 2, 2), NONE);
    Due.is(36, "bytes of the tape", s.call(36, 8), 200);
    Due.is(9, "the first bytes are read", s.call(9, 0, 0, 160), -2000 - whole.indexOf("8&1=1"));
    Due.is(36, "empty then", s.call(36, 8), 0);
    Due.is(8, "and taken again", s.call(8, 0x28313D31, 0x29000000, 0, 0, 0), 20);
    Due.is(17, "by a CHAIN", s.call(17, 5), 0);
    Due.is(36, "empty then", s.call(36, 8), 0);
  }

  /** All kinds full at once: all that tells more is refused, and nothing changes. */
  private static void everything() {
    Scene s = new Scene();
    for (int k = 0; k < 10; k++) {
      s.call(3, 1000000);
    }
    for (int k = 0; k < 150; k++) {
      s.call(4, 2, k % 10, (k + 1) % 10, 0, k % 24, 1000000, k % 16, NONE, NONE);
    }
    for (int k = 0; k < 100; k++) {
      s.call(5, k, 999999);
    }
    for (int k = 0; k < 20; k++) {
      s.rule(0, DAYS, "r(w=" + k % 16 + ")");
    }
    for (int k = 0; k < 6; k++) {
      s.chain("(w=" + k + ");(w=" + k + ")o");
    }
    for (int k = 0; k < 60; k++) {
      s.call(26, 0, k, DAYS);
    }
    for (int k = 0; k < 9; k++) {
      s.call(32, 1, 1, NONE);
    }
    for (int k = 0; k < 10; k++) {
      s.call(8, 0, 0, 0, 0, 0);
    }
    int[] counts = {0, 10, 150, 20, 100, 6, 60, 9, 200};
    for (int turn = 0; turn < 2; turn++) {
      for (int what = 0; what <= 8; what++) {
        Due.is(36, "full, what " + what, s.call(36, what), counts[what]);
      }
      Due.is(7, "full", s.call(7, 9, 0, 0), 1000000);
      Due.is(12, "all are BROKEN", s.call(12, 0), 150);
      Due.is(10, "BY the highest", s.call(10, 3, 0), 19);
      Due.is(15, "its own", s.call(15, 0, 0, 1) >= s.call(15, 0, 0, 0), true);
      Due.is(33, "all READINGS", s.call(33, 9), 511);
      Due.is(3, "house", s.call(3, 0), NONE);
      Due.is(4, "row", s.call(4, 1, 0, 0, 0, 0, 1, 0, NONE, NONE), NONE);
      Due.is(5, "mend", s.call(5, 149, 5), 0);
      Due.is(8, "feed", s.call(8, 1, 1, 1, 1, 1), NONE);
      Due.is(9, "rule", s.call(9, 0, 0, 1), NONE);
      Due.is(17, "chain", s.call(17, 1), NONE);
      Due.is(26, "ask", s.call(26, 0, 0, 1), NONE);
      Due.is(32, "reading", s.call(32, 1, 1, NONE), NONE);
    }
    Due.is(14, "the tape is read still", s.call(14, 999999, 1), 0);
    Due.is(36, "and empty then", s.call(36, 8), 0);
  }
}
