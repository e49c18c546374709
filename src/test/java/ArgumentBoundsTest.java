import java.util.ArrayList;
import java.util.List;

/**
 * Each argument of each call at the last value that is allowed and the first that is not, on both sides, with books
 * that have something of everything. What is refused answers what the document names for it and changes nothing, and
 * what only asks changes nothing either: all later answers are held against those of an object that had no such call.
 */
public final class ArgumentBoundsTest {
  private static final int NONE = -1;
  private static final int NO_SUM = -1000000000;
  private static final int DAYS = 3999;
  /** A whole TEXT of a RULE of 160 bytes, and one of a CHAIN of 100. */
  private static final String RULE = longText("r(1", "+1", 160, "=0)");
  private static final String CHAIN = longText("(11", "+1", 100, "=0)");
  /** 20 bytes that make a RULE, whole. */
  private static final String SHORT = "r(s>100&s<500|s=106)";

  private ArgumentBoundsTest() { }

  public static void main(String[] args) {
    telling();
    askingBooks();
    askingRules();
    texts();
    sumsAndHouses();
    hands();
    samplesAndAskings();
    readings();
    looking();
    pairs();
    Due.end();
  }

  private static String longText(String start, String middle, int length, String end) {
    StringBuilder b = new StringBuilder(start);
    while (b.length() + end.length() < length) {
      b.append(middle);
    }
    b.append(end);
    if (b.length() != length) {
      throw new IllegalStateException(b.length() + " bytes, not " + length);
    }
    return b.toString();
  }

  // ---- what is tried ----

  /** Argument a[place] of a call that tells something: from least to most it is taken. */
  private static void tells(int promise, int refused, int place, int least, int most, int... a) {
    edges(promise, refused, false, place, least, most, a);
  }

  /** Argument a[place] of a call that only asks: from least to most it has an answer. */
  private static void asks(int promise, int refused, int place, int least, int most, int... a) {
    edges(promise, refused, true, place, least, most, a);
  }

  private static void edges(int promise, int refused, boolean isAsking, int place, int least, int most, int... a) {
    for (int value : new int[] {least, most}) {
      allowed(promise, refused, isAsking, with(a, place, value));
    }
    List<Integer> beyond = new ArrayList<>(List.of(Integer.MIN_VALUE, Integer.MAX_VALUE));
    beyond.add(least - 1);
    beyond.add(most + 1);
    for (int value : beyond) {
      refused(promise, refused, with(a, place, value));
    }
  }

  private static int[] with(int[] a, int place, int value) {
    int[] b = a.clone();
    b[place] = value;
    return b;
  }

  private static String name(int promise, int[] a) {
    return "call of promise " + promise + " with " + java.util.Arrays.toString(a);
  }

  private static void allowed(int promise, int refused, boolean isAsking, int... a) {
    Scene s = Scene.told(SHORT);
    Due.is(promise, name(promise, a) + " is refused", s.call(promise, a) == refused, false);
    if (isAsking) {
      same(promise, name(promise, a) + " only asks", s.answers(9, 0, DAYS, 20), PLAIN);
    }
  }

  private static void refused(int promise, int refused, int... a) {
    Scene s = Scene.told(SHORT);
    Due.is(promise, name(promise, a), s.call(promise, a), refused);
    same(promise, name(promise, a) + " is refused", s.answers(9, 0, DAYS, 20), PLAIN);
  }

  private static final List<Long> PLAIN = Scene.told(SHORT).answers(9, 0, DAYS, 20);

  private static void same(int promise, String what, List<Long> got, List<Long> due) {
    Due.is(promise, what + ": how many answers", got.size(), due.size());
    for (int k = 0; k < due.size() && k < got.size(); k++) {
      Due.is(promise, what + ": later answer " + k, got.get(k), due.get(k));
    }
  }

  // ---- promises 2 to 5 ----

  private static void telling() {
    tells(2, 0, 0, Scene.NOW, DAYS, 0);
    tells(3, NONE, 0, 0, 1000000, 0);
    // KIND: 0 to 2 have an other, 3 has none.
    tells(4, NONE, 0, 0, 2, 0, 0, 1, 0, 0, 1, 0, NONE, NONE);
    tells(4, NONE, 0, 3, 3, 0, 0, NONE, 0, 0, 1, 0, NONE, NONE);
    for (int kind : new int[] {0, 1, 3}) {
      int other = kind == 3 ? NONE : 19;
      tells(4, NONE, 1, 0, Scene.HOUSES - 1, kind, 0, other, 0, 0, 1, 0, NONE, NONE);
      tells(4, NONE, 2, kind == 3 ? NONE : 0, other, kind, 0, other, 0, 0, 1, 0, NONE, NONE);
    }
    // One HOUSE twice is no MOVE, so the other's own number bounds both.
    tells(4, NONE, 1, 0, 1, 2, 0, 2, 0, 0, 1, 0, NONE, NONE);
    tells(4, NONE, 1, 1, 2, 2, 0, 0, 0, 0, 1, 0, NONE, NONE);
    tells(4, NONE, 2, 0, 1, 2, 2, 0, 0, 0, 1, 0, NONE, NONE);
    tells(4, NONE, 2, 1, 2, 2, 0, 0, 0, 0, 1, 0, NONE, NONE);
    for (int kind = 0; kind <= 3; kind++) {
      int other = kind == 3 ? NONE : 1;
      tells(4, NONE, 3, 0, Scene.NOW, kind, 0, other, 0, 0, 1, 0, NONE, NONE);
      tells(4, NONE, 4, 0, 23, kind, 0, other, 0, 0, 1, 0, NONE, NONE);
      tells(4, NONE, 5, 1, 1000000, kind, 0, other, 0, 0, 1, 0, NONE, NONE);
      tells(4, NONE, 6, 0, 15, kind, 0, other, 0, 0, 1, 0, NONE, NONE);
      tells(4, NONE, 8, NONE, 99, kind, 0, other, 0, 0, 1, 0, NONE, NONE);
      // LEAVE by its own HAND is none, so the HAND's number bounds it, too.
      tells(4, NONE, 7, NONE, NONE, kind, 0, other, 0, 0, 1, 0, NONE, NONE);
      tells(4, NONE, 7, 1, 15, kind, 0, other, 0, 0, 1, 0, NONE, NONE);
      tells(4, NONE, 7, NONE, 14, kind, 0, other, 0, 0, 1, 15, NONE, NONE);
      tells(4, NONE, 6, 0, 6, kind, 0, other, 0, 0, 1, 0, 7, NONE);
      tells(4, NONE, 6, 8, 15, kind, 0, other, 0, 0, 1, 0, 7, NONE);
    }
    tells(5, 0, 0, 0, Scene.OUT - 1, 0, 1);
    tells(5, 0, 0, Scene.OUT + 1, Scene.ROWS - 1, 0, 1);
    tells(5, 0, 1, 0, 1000000, 13, 1);
  }

  // ---- promises 6 and 7, 10 to 13 ----

  private static void askingBooks() {
    asks(6, NONE, 0, 0, Scene.OUT - 1, 0, Scene.NOW, 0);
    asks(6, NONE, 0, Scene.OUT + 1, Scene.ROWS - 1, 0, Scene.NOW, 0);
    for (int what = 0; what <= 1; what++) {
      asks(6, NONE, 1, 0, DAYS, 0, 0, what);
      asks(6, NONE, 1, 5, DAYS, 3, 0, what);
      asks(6, NONE, 1, 10, DAYS, 13, 0, what);
      asks(6, NONE, 1, 5, 9, Scene.OUT, 0, what);
    }
    asks(6, NONE, 2, 0, 1, 0, 0, 0);
    asks(7, NO_SUM, 0, 0, Scene.HOUSES - 1, 0, 0, 0);
    asks(7, NO_SUM, 1, 0, DAYS, 0, 0, Scene.NOW);
    asks(7, NO_SUM, 2, 0, DAYS, 0, Scene.NOW, 0);
  }

  private static void askingRules() {
    asks(10, NONE, 0, 0, Scene.OUT - 1, 0, Scene.NOW);
    asks(10, NONE, 0, Scene.OUT + 1, Scene.ROWS - 1, 0, Scene.NOW);
    asks(10, NONE, 1, 0, DAYS, 0, 0);
    asks(10, NONE, 1, 5, DAYS, 3, 0);
    asks(10, NONE, 1, 5, 9, Scene.OUT, 0);
    tells(11, 0, 0, 0, Scene.CLEARED - 1, 0, 0);
    tells(11, 0, 0, Scene.CLEARED + 1, Scene.ROWS - 1, 0, 0);
    tells(11, 0, 1, 0, 15, 0, 0);
    asks(12, NONE, 0, 0, DAYS, 0);
    asks(13, NONE, 0, 0, DAYS, 0, 0);
    asks(13, NONE, 1, 0, Scene.FINDINGS - 1, Scene.NOW, 0);
  }

  // ---- promises 9, 14 and 17: their arguments, and the tape that stays ----

  private static void texts() {
    text(RULE, 9, 0, DAYS, 160);
    text(CHAIN, 17, 100);
    StringBuilder rows = new StringBuilder();
    for (int k = 0; k < 20; k++) {
      rows.append((char) (k < 12 ? k < Scene.OUT ? k : k + 1 : 200));
    }
    for (int n = 1; n <= 12; n++) {
      Scene s = Scene.told(rows.toString());
      Due.is(14, n + " bytes are refused", s.call(14, 0, n) == NONE, false);
      Due.is(14, "empty then", s.call(36, 8), 0);
    }
    for (int sum : new int[] {0, 12000000}) {
      Due.is(14, "sum " + sum + " is refused", Scene.told(rows.toString()).call(14, sum, 12) == NONE, false);
    }
    int[][] wrong = {{-1, 12}, {12000001, 12}, {0, 0}, {0, -1}, {0, 13}, {0, 20}, {0, 21},
      {Integer.MIN_VALUE, 12}, {Integer.MAX_VALUE, 12}, {0, Integer.MIN_VALUE}, {0, Integer.MAX_VALUE}};
    List<Long> due = Scene.told(rows.toString()).answers(14, 1000, 12);
    for (int[] a : wrong) {
      Scene s = Scene.told(rows.toString());
      Due.is(14, name(14, a), s.call(14, a), NONE);
      same(14, name(14, a) + ": the tape stays", s.answers(14, 1000, 12), due);
    }
    dayBounds();
  }

  /** The last argument is how many bytes; the whole text is as long as may be. */
  private static void text(String whole, int promise, int... a) {
    int place = a.length - 1;
    int longest = a[place];
    List<Long> due = Scene.told(whole).answers(promise, a);
    int[] wrong = {0, -1, longest + 1, 180, 200, 201, Integer.MIN_VALUE, Integer.MAX_VALUE};
    for (int n : wrong) {
      Scene s = Scene.told(whole);
      // What is more than may be is refused, though the tape may have it; so is what the tape has not.
      Due.is(promise, n + " bytes", s.call(promise, with(a, place, n)), NONE);
      same(promise, n + " bytes: the tape stays", s.answers(promise, a), due);
    }
    for (int n : new int[] {1, longest}) {
      Scene s = Scene.told(whole + "(((");
      long answer = s.call(promise, with(a, place, n));
      Due.is(promise, n + " bytes are refused", answer == NONE, false);
      Due.is(promise, "empty then", s.call(36, 8), 0);
    }
    Scene few = Scene.told(whole.substring(0, 20));
    Due.is(promise, "a byte more than the tape has", few.call(promise, with(a, place, 21)), NONE);
    Due.is(promise, "the tape stays", few.call(36, 8), 20);
    Due.is(promise, "as many as the tape has", few.call(promise, with(a, place, 20)), -1020);
    Due.is(promise, "empty then", few.call(36, 8), 0);
    Due.is(promise, "an empty tape has not one", few.call(promise, with(a, place, 1)), NONE);
  }

  private static void dayBounds() {
    tells(9, NONE, 0, 0, DAYS, 0, DAYS, 20);
    tells(9, NONE, 1, 0, DAYS, 0, 0, 20);
    tells(9, NONE, 0, 0, 7, 0, 7, 20);
    tells(9, NONE, 1, 7, DAYS, 7, 0, 20);
    tells(9, NONE, 2, 1, 20, 0, DAYS, 20);
    tells(17, NONE, 0, 1, 20, 20);
  }

  // ---- promises 15, 16, 18 and 19 ----

  private static void sumsAndHouses() {
    for (int most = 0; most <= 1; most++) {
      asks(15, NONE, 0, 0, Scene.HOUSES - 1, 0, 0, most);
      asks(15, NONE, 1, 0, Scene.HOUSES - 1, 0, 0, most);
    }
    asks(16, NONE, 0, 0, DAYS, 0, 0);
    asks(16, NONE, 1, 0, 100, 0, 0);
    asks(18, NONE, 0, 0, Scene.CHAINS - 1, 0, 0, 0);
    asks(18, NONE, 1, 0, DAYS, 0, 0, 0);
    asks(18, NONE, 2, 0, 4000000, 0, 0, 0);
    asks(19, NONE, 0, 0, Scene.CHAINS - 1, 0, DAYS, 0, 0);
    asks(19, NONE, 1, 0, DAYS, 1, 0, 0, 0);
    // The largest SUM of one STEP is one of 700.
    asks(19, NONE, 2, 0, 700, 1, 0, 0, 0);
    asks(19, NONE, 3, 0, 1, 0, DAYS, 0, 0);
    asks(19, NONE, 3, 0, 0, 1, DAYS, 0, 0);
  }

  // ---- promises 20 to 24, 29 ----

  private static void hands() {
    for (int what = 0; what <= 5; what++) {
      asks(20, NONE, 0, 0, 15, 1, 1, 0, what);
      asks(20, NONE, 1, 0, 3, 1, 1, 0, what);
      asks(20, NONE, 2, 0, Scene.RULES - 1, 1, 1, 0, what);
    }
    asks(20, NONE, 3, 0, 5, 1, 1, 0, 0);
    asks(21, NONE, 0, 0, 15, 1, 1, 0, 1);
    asks(21, NONE, 1, 0, 3, 1, 1, 0, 1);
    asks(21, NONE, 2, 0, Scene.RULES - 1, 1, 1, 0, 1);
    asks(21, NONE, 3, 0, 1000, 1, 1, 0, 1);
    for (int payee = 0; payee <= 1; payee++) {
      int last = payee == 1 ? 19 : 15;
      tells(22, 0, 0, 0, last, 0, payee, 0);
      tells(22, 0, 2, 0, (1 << 30) - 1, 0, payee, 0);
      for (int other = 0; other <= 1; other++) {
        asks(23, NONE, 0, 0, last, 0, payee, 3, other);
        asks(23, NONE, 2, 0, last, 3, other, 0, payee);
      }
    }
    asks(24, NO_SUM, 0, 0, 15, 0);
    asks(29, NONE, 0, 0, 15, 0);
  }

  // ---- promises 25 to 28, 30 and 31 ----

  private static void samplesAndAskings() {
    asks(25, NONE, 0, 1, 50, 1, 0, 0);
    asks(25, NONE, 1, 0, 65535, 1, 0, 0);
    asks(25, NONE, 2, 0, 2, 1, 0, 0);
    asks(25, NONE, 2, 10, 10, 1, 0, 0);
    int drawn = (int) Scene.told("").call(25, 50, 7, 0);
    asks(25, NONE, 2, 10, 9 + drawn, 50, 7, 0);
    tells(26, NONE, 0, 0, 15, 0, 0, DAYS);
    tells(26, NONE, 1, 0, Scene.ROWS - 1, 0, 0, DAYS);
    tells(26, NONE, 2, Scene.NOW + 1, DAYS, 0, 0, 0);
    // ASKING 1 has its ANSWER.
    tells(27, 0, 0, 0, 0, 0, 7);
    tells(27, 0, 0, 2, Scene.ASKINGS - 1, 2, 7);
    tells(27, 0, 1, 0, 1000000, 0, 0);
    asks(28, NONE, 0, 0, Scene.ASKINGS - 1, 0);
    // ROWS 1 and 7 are PUT IN.
    tells(30, 0, 0, 0, 0, 0);
    tells(30, 0, 0, 2, 6, 2);
    tells(30, 0, 0, 8, Scene.ROWS - 1, 8);
    asks(31, NONE, 0, 0, 1, 0);
  }

  // ---- promises 32 to 34 ----

  private static void readings() {
    tells(32, NONE, 0, 1, 1000, 1, 0, NONE);
    tells(32, NONE, 1, 0, 100000, 1, 0, NONE);
    tells(32, NONE, 2, NONE, Scene.READINGS - 1, 1, 0, NONE);
    asks(33, NONE, 0, 0, 10000, 0);
    asks(34, NONE, 0, 0, (1 << Scene.READINGS) - 1, 0);
  }

  // ---- promises 35 and 36 ----

  private static void looking() {
    // ROW 1 has all but a MOVE's, and was CLEARED.
    asks(35, NONE, 1, 0, 10, 1, 0);
    asks(35, NONE, 0, 0, Scene.ROWS - 1, 0, 0);
    asks(36, NONE, 0, 0, 8, 0);
    asks(36, NONE, 0, 20, 19 + Scene.RULES, 20);
    asks(36, NONE, 0, 40, 39 + Scene.CHAINS, 40);
  }

  /** Two wrong arguments at once are refused as one is; so is a wrong one beside the edge of another. */
  private static void pairs() {
    refused(6, NONE, -1, -1, -1);
    refused(6, NONE, Scene.ROWS, DAYS, 1);
    refused(7, NO_SUM, Scene.HOUSES, DAYS, DAYS);
    refused(7, NO_SUM, 0, DAYS + 1, DAYS + 1);
    refused(9, NONE, DAYS + 1, DAYS + 1, 20);
    refused(9, NONE, -1, -1, 20);
    refused(9, NONE, DAYS, DAYS - 1, 20);
    refused(9, NONE, 1, 0, 20);
    refused(13, NONE, DAYS, Scene.FINDINGS);
    refused(13, NONE, 0, Scene.FINDINGS);
    refused(15, NONE, Scene.HOUSES, Scene.HOUSES, 1);
    refused(15, NONE, -1, -1, 0);
    refused(16, NONE, DAYS + 1, 101);
    refused(18, NONE, Scene.CHAINS, DAYS, 4000000);
    refused(19, NONE, 0, DAYS, 0, 2);
    refused(20, NONE, 15, 3, Scene.RULES, 5);
    refused(23, NONE, 16, 0, 16, 0);
    refused(23, NONE, 20, 1, 20, 1);
    refused(25, NONE, 50, 65535, 3);
    refused(25, NONE, 50, 65535, 9);
    refused(26, NONE, 16, Scene.ROWS, Scene.NOW);
    refused(35, NONE, Scene.ROWS, 10);
    refused(36, NONE, 9);
    refused(36, NONE, 19);
    refused(36, NONE, 39);
    refused(36, NONE, 45);
  }
}
