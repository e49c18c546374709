import java.lang.management.ManagementFactory;
import java.util.Random;

/** Full books and arguments of all kinds: no call throws, none takes long, and little room is used. */
public final class StrainTest {
  private static final int CALLS = 512;
  /** A run has room for 7.3 million fields and elements; with eight bytes each this stays far below. */
  private static final long MOST_BYTES = 8_000_000;
  private static final long MOST_ELEMENTS = 7_300_000;
  private static final long MOST_CALL_BYTES = 4000;
  private static final long MOST_MILLIS = 2000;
  private static final int KINDS_OF_CALLS = 36;
  private static int wrong = 0;

  private StrainTest() { }

  private static void fail(String what) {
    wrong++;
    System.out.println(what);
  }

  public static void main(String[] args) {
    for (int seed = 1; seed <= 400; seed++) {
      anyArguments(seed);
    }
    dearRuns();
    slowRounds();
    slowFits();
    slowFlow();
    dearestCalls();
    System.out.println(wrong + " strains not stood");
    if (wrong != 0) {
      System.exit(1);
    }
  }

  private static long allocated() {
    return ((com.sun.management.ThreadMXBean) ManagementFactory.getThreadMXBean())
        .getThreadAllocatedBytes(Thread.currentThread().getId());
  }

  private static int any(Random dice) {
    switch (dice.nextInt(8)) {
      case 0: return dice.nextInt();
      case 1: return Integer.MIN_VALUE + dice.nextInt(12);
      case 2: return Integer.MAX_VALUE - dice.nextInt(12);
      case 3: return dice.nextInt(200) - 20;
      default: return dice.nextInt(14) - 1;
    }
  }

  /** A call by number (1 to 36 as the promises; 1 is count), with arguments of any kind. */
  private static long call(RowAuditor x, int promise, Random dice) {
    int a = any(dice);
    int b = any(dice);
    int c = any(dice);
    int d = any(dice);
    int e = any(dice);
    boolean p = dice.nextBoolean();
    boolean q = dice.nextBoolean();
    switch (promise) {
      case 2: return x.now(dice.nextInt(4) > 0 ? x.count(0) + 1 : a) ? 1 : 0;
      case 3: return x.house(a);
      case 4: return x.row(dice.nextInt(4), dice.nextInt(3), b % 4, c % 4, d % 25, e, a % 16, b % 16, c % 100);
      case 5: return x.mend(a, b) ? 1 : 0;
      case 6: return x.known(a, b, c);
      case 7: return x.holds(a, b, c);
      case 8: return dice.nextBoolean() ? x.feed(a, b, c, d, e) : Due.feed(x, "r(s/k>1|!w=2);l([n+t]*7%q>3)");
      case 9: return x.rule(a, b, dice.nextBoolean() ? 29 : c);
      case 10: return x.broken(a, b);
      case 11: return x.clear(a, b) ? 1 : 0;
      case 12: return x.findings(a);
      case 13: return x.finding(a, b);
      case 14: return x.parted(a, b);
      case 15: return x.followed(a, b, p);
      case 16: return x.rounds(a, b);
      case 17: return dice.nextBoolean() ? Due.chain(x, "(s>0);(k>0)p;(k<3)wo") : x.chain(a);
      case 18: return x.fits(a, b, c);
      case 19: return x.fitted(a, b, c, d);
      case 20: return x.ways(a, b, c, d);
      case 21: return x.odd(a, b, c, d);
      case 22: return x.things(a, p, b) ? 1 : 0;
      case 23: return x.behind(a, p, b, q);
      case 24: return x.grown(a);
      case 25: return x.sample(a, b, c);
      case 26: return x.ask(a, b, c);
      case 27: return x.answer(a, b) ? 1 : 0;
      case 28: return x.asked(a);
      case 29: return x.ifFalse(a);
      case 30: return x.putIn(a) ? 1 : 0;
      case 31: return x.found(a);
      case 32: return x.reading(a, b, c);
      case 33: return x.best(a);
      case 34: return x.judge(a);
      case 35: return x.look(a, b);
      default: return x.count(a);
    }
  }

  /** More calls than an object is used for: what it answers then is free, but it must not throw. */
  private static void anyArguments(int seed) {
    Random dice = new Random(seed);
    RowAuditor x = new RowAuditor();
    for (int k = 0; k < 3 * CALLS; k++) {
      int promise = 1 + dice.nextInt(KINDS_OF_CALLS);
      try {
        call(x, promise, dice);
      } catch (RuntimeException | StackOverflowError e) {
        fail("seed " + seed + ", call " + k + ", promise " + promise + ": " + e);
        return;
      }
    }
  }

  private static RowAuditor filled(Random dice, int rows) {
    RowAuditor x = new RowAuditor();
    for (int h = 0; h < 10; h++) {
      x.house(1000000);
    }
    for (int k = 0; k < rows; k++) {
      int from = dice.nextInt(10);
      x.row(2, from, (from + 1 + dice.nextInt(9)) % 10, 0, 0, 900000 + dice.nextInt(100000), dice.nextInt(16), -1, -1);
    }
    return x;
  }

  /** A whole run of one call, again and again, on full books. */
  private static void dearRuns() {
    for (int promise = 1; promise <= KINDS_OF_CALLS; promise++) {
      Random dice = new Random(promise);
      long bytes = allocated();
      RowAuditor x = filled(dice, 150);
      Due.rule(x, "r(n>1&t=0)");
      Due.chain(x, "(s>0);(s>1)");
      for (int k = 0; k < CALLS - 170; k++) {
        call(x, promise, dice);
      }
      long used = allocated() - bytes;
      if (used > MOST_BYTES) {
        fail("promise " + promise + ": a run used " + used + " bytes");
      }
    }
  }

  private static void timed(String what, long start) {
    long millis = (System.nanoTime() - start) / 1_000_000;
    if (millis > MOST_MILLIS) {
      fail(what + " took " + millis + " ms");
    }
  }

  /** Very many ways, none of which comes home. */
  private static void slowRounds() {
    RowAuditor x = new RowAuditor();
    for (int h = 0; h < 10; h++) {
      x.house(0);
    }
    for (int k = 0; k < 150; k++) {
      x.row(2, k / 25, k / 25 + 1, 0, 0, 10, 0, -1, -1);
    }
    long start = System.nanoTime();
    if (x.rounds(3999, 100) != 0) {
      fail("rounds, though no way comes home");
    }
    RowAuditor y = filled(new Random(7), 150);
    for (int k = 0; k < 20; k++) {
      y.rounds(3999, 100);
    }
    timed("rounds", start);
  }

  /** Very many rows of rows, only the last of which has the sum. */
  private static void slowFits() {
    RowAuditor x = new RowAuditor();
    x.house(0);
    for (int k = 0; k < 150; k++) {
      x.row(1, 0, 0, 0, 0, k + 1, 0, -1, -1);
    }
    Due.chain(x, "(s>0);(s>0);(s>0);(s>0)");
    long start = System.nanoTime();
    if (x.fits(0, 0, 147 + 148 + 149 + 150) != 1 || x.fitted(0, 0, 147 + 148 + 149 + 150, 3) != 149) {
      fail("fits does not find the last one");
    }
    if (x.fits(0, 0, 147 + 148 + 149 + 150 - 1) != 2) {
      fail("fits does not find the last two");
    }
    if (x.fits(0, 0, 0) != 100000) {
      fail("fits has more than its bound");
    }
    timed("fits", start);
  }

  private static void slowFlow() {
    RowAuditor x = filled(new Random(3), 150);
    long start = System.nanoTime();
    for (int a = 0; a < 10; a++) {
      long most = 0;
      long least = 0;
      for (int b = 0; b < 10; b++) {
        int up = x.followed(a, b, true);
        int down = x.followed(a, b, false);
        if (down > up || down < 0 || up > 1000000) {
          fail("followed(" + a + ", " + b + ") from " + down + " to " + up);
        }
        most += up;
        least += down;
      }
      if (least > 1000000 || most < 1000000) {
        fail("the coins of " + a + " are somewhere, for nothing is paid out");
      }
    }
    timed("followed", start);
  }

  /**
   * What the dearest call makes, times all calls, must have room; and a new object counts as a call. An element or
   * field of the class has four bytes or more, but for 150 booleans.
   */
  private static void dearestCalls() {
    long most = 0;
    for (int turn = 0; turn < 2; turn++) {
      // The first turn only warms up: loading classes makes objects, too.
      most = 0;
      for (int promise = 2; promise <= KINDS_OF_CALLS; promise++) {
        most = Math.max(most, dearestCall(promise));
      }
      most = Math.max(most, dearestText());
    }
    long before = allocated();
    RowAuditor x = new RowAuditor();
    long made = allocated() - before;
    if (x.count(0) != 0 || made / 4 + 150 > MOST_ELEMENTS / CALLS) {
      fail("a new object has " + made + " bytes");
    }
    if (most > MOST_CALL_BYTES) {
      fail("a call made " + most + " bytes");
    }
  }

  /** Each call is the first of its kind on its object, for that is when something could be made late. */
  private static long dearestCall(int promise) {
    long most = 0;
    for (int seed = 0; seed < 20; seed++) {
      Random dice = new Random(seed);
      RowAuditor x = filled(dice, 20);
      Due.chain(x, "(s>0);(s>1)");
      long before = allocated();
      long answer = plainCall(x, promise, seed);
      long made = allocated() - before;
      most = Math.max(most, answer == Long.MIN_VALUE ? 0 : made);
    }
    return most;
  }

  /** Calls whose arguments stand, so that they go all the way. */
  private static long plainCall(RowAuditor x, int promise, int k) {
    switch (promise) {
      case 4: return x.row(1, 0, 0, 0, k, 7, 1, -1, -1);
      case 7: return x.holds(0, 0, 0);
      case 8: return x.feed(k, k, k, k, k);
      case 15: return x.followed(0, 1, k % 2 == 0);
      case 16: return x.rounds(3999, 100);
      case 18: return x.fits(0, 3999, 0);
      case 19: return x.fitted(0, 3999, 0, k % 2);
      case 25: return x.sample(50, k, 1);
      default: return call(x, promise, new Random(k));
    }
  }

  /** A whole tape of CLAUSES, good ones and one too many. */
  private static long dearestText() {
    long most = 0;
    String clause = "l(s+s+s>s+1);";
    for (String text : new String[] {clause.repeat(9) + "r(" + "s*".repeat(19) + "s=0)", clause.repeat(11)}) {
      RowAuditor x = new RowAuditor();
      Due.feed(x, text);
      long before = allocated();
      x.rule(0, 3999, Math.min(160, text.length()));
      most = Math.max(most, allocated() - before);
    }
    return most;
  }
}
