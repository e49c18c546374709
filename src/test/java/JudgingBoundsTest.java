/** ODD, BEHIND, GROWN, A SAMPLE, ASKINGS, IF FALSE, PUT IN and READINGS at their bounds. */
public final class JudgingBoundsTest {
  private static final int NONE = -1;
  private static final int DAYS = 3999;
  private static final int MOST = 1000000;
  /** Seeds by which X becomes 0 and 65535 at the first draw. */
  private static final int TO_NOTHING = 3915;
  private static final int TO_MOST = 33870;

  private JudgingBoundsTest() { }

  public static void main(String[] args) {
    fiftyOfAKind();
    waysCounted();
    firstBreaking();
    waysAsKnownNow();
    oddAtTheShare();
    thingsShared();
    behindByOthers();
    ofOneWithItself();
    grownByPays();
    drawsBySeed();
    coinsOfTheSample();
    drawnOnce();
    boundsOfWrong();
    sampleAsKnownNow();
    openOrLate();
    deniedOrAnswered();
    leavesThoughtAway();
    foundOnes();
    bestOfAll();
    bestOfLikeOnes();
    setsThatWant();
    Due.end();
  }

  // ---- ODD ----

  private static void ways(RowAuditor x, int hand, int kind, int r, long... due) {
    for (int what = 0; what < due.length; what++) {
      Due.is(20, "ways(" + hand + ", " + kind + ", " + r + ", " + what + ")", x.ways(hand, kind, r, what), due[what]);
    }
  }

  /** "(50 at most; by all HANDS)": of a told KIND, as KNOWN now. */
  private static void fiftyOfAKind() {
    for (int kind = 0; kind <= 3; kind++) {
      RowAuditor x = Tell.withHouses(0, 0);
      Due.rule(x, "r(w=0)");
      for (int k = 0; k < 50; k++) {
        Due.is(20, "of " + k, x.ways(0, kind, 0, 4), k);
        row(x, kind, k % 2);
        // Of another KIND: none of them.
        row(x, (kind + 1) % 4, 0);
      }
      ways(x, 0, kind, 0, 1, 126410606437752L, 25, 25, 50, 25);
      ways(x, 1, kind, 0, 126410606437752L, 126410606437752L, 25, 0, 50, 25);
      ways(x, 2, kind, 0, 1, 1, 0, 0, 50, 25);
      Due.is(21, "fifty", x.odd(0, kind, 0, 0), 0);
      row(x, kind, 15);
      for (int what = 0; what <= 5; what++) {
        Due.is(20, "fifty-one, what " + what, x.ways(0, kind, 0, what), NONE);
        Due.is(20, "fifty of the other KIND", x.ways(0, (kind + 1) % 4, 0, what) == NONE, false);
      }
      Due.is(21, "fifty-one", x.odd(0, kind, 0, 1000), NONE);
      x.mend(100, 0);
      ways(x, 15, kind, 0, 1, 1, 0, 0, 50, 25);
      Due.is(21, "fifty again", x.odd(2, kind, 0, 1000), 1);
    }
  }

  private static void row(RowAuditor x, int kind, int hand) {
    x.row(kind, 0, kind == 3 ? NONE : 1, 0, 0, 1, hand, NONE, NONE);
  }

  /** "of all ways to take n out of N, how many have x or more MARKED; of how many". */
  private static void waysCounted() {
    // HAND 0 has 3 of 6 ROWS; the MARKED ones are those of a SUM of 2.
    int[][] marked = {{}, {0}, {5}, {0, 1}, {0, 5}, {0, 1, 2}, {3, 4, 5}, {0, 3, 4, 5}, {0, 1, 2, 3, 4, 5}};
    int[] due = {20, 10, 20, 4, 16, 1, 20, 20, 20};
    int[] own = {0, 1, 0, 2, 1, 3, 0, 1, 3};
    for (int k = 0; k < marked.length; k++) {
      RowAuditor x = Tell.withHouses(0);
      for (int i = 0; i < 6; i++) {
        Tell.guess(x, 0, 0, 1, i < 3 ? 0 : 1);
      }
      for (int i : marked[k]) {
        x.mend(i, 2);
      }
      Due.rule(x, "r(s=2)");
      ways(x, 0, 3, 0, due[k], 20, 3, own[k], 6, marked[k].length);
      ways(x, 2, 3, 0, 1, 1, 0, 0, 6, marked[k].length);
    }
    // Of one ROW, and all of one HAND.
    RowAuditor x = Tell.withHouses(0);
    Due.rule(x, "r(s=2)");
    Tell.guess(x, 0, 0, 2, 0);
    ways(x, 0, 3, 0, 1, 1, 1, 1, 1, 1);
    ways(x, 1, 3, 0, 1, 1, 0, 0, 1, 1);
    Tell.guess(x, 0, 0, 1, 0);
    ways(x, 0, 3, 0, 1, 1, 2, 1, 2, 1);
    ways(x, 0, 2, 0, 1, 1, 0, 0, 0, 0);
    // One of fifty, and 49 of fifty.
    RowAuditor y = Tell.withHouses(0);
    Due.rule(y, "r(w=0)");
    for (int k = 0; k < 50; k++) {
      Tell.guess(y, 0, 0, 1, k == 0 ? 0 : 1);
    }
    ways(y, 0, 3, 0, 1, 50, 1, 1, 50, 1);
    ways(y, 1, 3, 0, 50, 50, 49, 0, 50, 1);
  }

  /** "MARKED by a told RULE's first r (its C holds, in FORCE or not)". */
  private static void firstBreaking() {
    RowAuditor x = Tell.withHousesOn(9, 0);
    for (int i = 0; i < 4; i++) {
      Tell.guess(x, 0, 5, 1 + i, i < 2 ? 0 : 1);
    }
    String[] rules = {"r(s=1)", "x0.0;l(s>1);r(s=2);r(s<4)", "r(s>9);r(s>0)", "l(s>0);l(s>0);r(s>3)", "l(s>0)",
      "x0.0;x1.2", "r(1/[s-1]=1|s>2)", "l(1=1);r(1=1);r(1=2);x6.1"};
    int[] markedOfAll = {1, 1, 0, 1, NONE, NONE, 3, 4};
    for (int r = 0; r < rules.length; r++) {
      Due.is(9, rules[r], Due.rule(x, r == 0 ? 6 : 0, r == 0 ? DAYS : 4, rules[r]), r);
      Due.is(20, "MARKED by " + rules[r], x.ways(0, 3, r, 5), markedOfAll[r]);
      Due.is(21, "no r in it", x.odd(0, 3, r, 1000) == NONE, markedOfAll[r] == NONE);
      Due.is(10, "out of FORCE", x.broken(0, 9), -2);
    }
    // STRUCK or not, and CLEARED or not, it is MARKED.
    Due.rule(x, "x0.0;x1.2;x6.0");
    x.clear(0, 0);
    Due.is(20, "MARKED", x.ways(0, 3, 0, 5), 1);
    Due.is(20, "MARKED", x.ways(0, 3, 0, 3), 1);
  }

  private static void waysAsKnownNow() {
    RowAuditor x = Tell.withHousesOn(3, 0);
    for (int i = 0; i < 4; i++) {
      Tell.guess(x, 0, 0, 10, i < 2 ? 0 : 1);
    }
    Due.rule(x, "r(s>10|n>2)");
    ways(x, 0, 3, 0, 6, 6, 2, 0, 4, 0);
    x.now(4);
    x.mend(0, 11);
    ways(x, 0, 3, 0, 3, 6, 2, 1, 4, 1);
    x.mend(3, 0);
    ways(x, 0, 3, 0, 2, 3, 2, 1, 3, 1);
    // A third of that HAND on that DAY marks all three.
    Tell.guess(x, 0, 0, 1, 0);
    ways(x, 0, 3, 0, 1, 4, 3, 3, 4, 3);
  }

  /** "It is ODD if WAYS times 1000 are not above these times a told share (thousandths)." */
  private static void oddAtTheShare() {
    RowAuditor x = Tell.withHouses(0);
    for (int i = 0; i < 8; i++) {
      Tell.guess(x, 0, 0, i < 3 ? 2 : 1, i < 4 ? 0 : 1);
    }
    Due.rule(x, "r(s=2)");
    // All three of them among four of eight: 5 of 70 ways are 71.4 thousandths.
    ways(x, 0, 3, 0, 5, 70);
    Due.is(21, "72 thousandths", x.odd(0, 3, 0, 72), 1);
    Due.is(21, "71 thousandths", x.odd(0, 3, 0, 71), 0);
    Due.is(21, "all", x.odd(0, 3, 0, 1000), 1);
    Due.is(21, "none", x.odd(0, 3, 0, 0), 0);
    // One of 50 ways is 20 thousandths, and not above them.
    RowAuditor y = Tell.withHouses(0);
    Due.rule(y, "r(w=0)");
    for (int k = 0; k < 50; k++) {
      Tell.guess(y, 0, 0, 1, k == 0 ? 0 : 1);
    }
    Due.is(21, "20 thousandths", y.odd(0, 3, 0, 20), 1);
    Due.is(21, "19 thousandths", y.odd(0, 3, 0, 19), 0);
    // All of all ways are a thousand thousandths.
    Due.is(21, "1000 thousandths", y.odd(1, 3, 0, 1000), 1);
    Due.is(21, "999 thousandths", y.odd(1, 3, 0, 999), 0);
    Due.is(21, "a HAND that has none", y.odd(2, 3, 0, 1000), 1);
    Due.is(21, "a HAND that has none", y.odd(2, 3, 0, 999), 0);
    for (int share = -2; share <= 1002; share += share < 40 || share > 990 ? 1 : 10) {
      Due.is(21, "share " + share, y.odd(0, 3, 0, share), share < 0 || share > 1000 ? NONE : share >= 20 ? 1 : 0);
    }
  }

  // ---- BEHIND ----

  /** "THINGS (0 to 29: an address, an account; a set of bits)". */
  private static void thingsShared() {
    for (int thing = 0; thing < 30; thing++) {
      RowAuditor x = new RowAuditor();
      Due.is(22, "thing " + thing, x.things(15, false, 1 << thing), true);
      Due.is(22, "thing " + thing, x.things(19, true, 1 << thing), true);
      Due.is(22, "another", x.things(0, true, 1 << (thing + 1) % 30), true);
      Due.is(23, "they share it", x.behind(15, false, 19, true), 1);
      Due.is(23, "they share it", x.behind(19, true, 15, false), 1);
      Due.is(23, "that one has another", x.behind(15, false, 0, true), 0);
      Due.is(23, "one without any", x.behind(15, false, 19, false), NONE);
      Due.is(23, "one without any", x.behind(14, false, 19, true), 0);
      Due.is(23, "one without any", x.behind(19, true, 18, true), 0);
    }
    RowAuditor x = new RowAuditor();
    int all = (1 << 30) - 1;
    x.things(0, false, all);
    x.things(0, true, 1 << 29);
    for (int set : new int[] {all + 1, -1, Integer.MAX_VALUE, Integer.MIN_VALUE}) {
      Due.is(22, "no such set " + set, x.things(0, true, set), false);
      Due.is(23, "it has what it had", x.behind(0, false, 0, true), 1);
    }
    Due.is(22, "none any more", x.things(0, false, 0), true);
    Due.is(23, "none any more", x.behind(0, false, 0, true), 0);
    Due.is(22, "told again", x.things(0, false, 1 << 29 | 1), true);
    Due.is(23, "shared again", x.behind(0, false, 0, true), 1);
    // Two that have nothing share nothing.
    x.things(1, false, 0);
    x.things(2, false, 0);
    Due.is(23, "nothing and nothing", x.behind(1, false, 2, false), 0);
  }

  /** "or both share with a third one, and so on". */
  private static void behindByOthers() {
    // Owners k and k + 1 share thing k: 30 are of one, in whatever order they stand.
    for (int step : new int[] {1, 7, 23, 29}) {
      RowAuditor x = new RowAuditor();
      for (int k = 0; k <= 30; k++) {
        int owner = k * step % 31;
        int set = (k > 0 ? 1 << k - 1 : 0) | (k < 30 ? 1 << k : 0);
        x.things(owner < 16 ? owner : owner - 16, owner >= 16, set);
      }
      for (int k = 0; k <= 30; k++) {
        int owner = k * step % 31;
        Due.is(23, "by " + k + " things", x.behind(0, false, owner < 16 ? owner : owner - 16, owner >= 16), 1);
      }
      Due.is(23, "one without any", x.behind(0, false, 19, true), 0);
      // One in the middle has nothing any more: those on both sides are apart.
      int middle = 15 * step % 31;
      x.things(middle < 16 ? middle : middle - 16, middle >= 16, 0);
      for (int k = 1; k <= 30; k++) {
        int owner = k * step % 31;
        Due.is(23, "before or behind " + k, x.behind(0, false, owner < 16 ? owner : owner - 16, owner >= 16),
            k < 15 ? 1 : 0);
      }
    }
    RowAuditor x = new RowAuditor();
    x.things(0, false, 1);
    x.things(1, false, 2);
    Due.is(23, "apart", x.behind(0, false, 1, false), 0);
    x.things(19, true, 3);
    Due.is(23, "by a third one", x.behind(0, false, 1, false), 1);
    x.things(19, true, 1);
    Due.is(23, "apart again", x.behind(0, false, 1, false), 0);
  }

  /** "(One with itself: 1.)" */
  private static void ofOneWithItself() {
    for (int turn = 0; turn < 2; turn++) {
      RowAuditor x = new RowAuditor();
      for (int k = 0; k < 20; k++) {
        if (k < 16) {
          x.things(k, false, turn == 0 ? 0 : 1 << k);
        }
        Due.is(23, "HAND " + k, x.behind(k, false, k, false), k < 16 ? 1 : NONE);
        Due.is(23, "PAYEE " + k, x.behind(k, true, k, true), 1);
        Due.is(23, "HAND and PAYEE " + k, x.behind(k, false, k, true), k < 16 ? 0 : NONE);
        Due.is(23, "PAYEE and HAND " + k, x.behind(k, true, k, false), k < 16 ? 0 : NONE);
      }
      for (int k : new int[] {-1, 20, Integer.MIN_VALUE, Integer.MAX_VALUE}) {
        Due.is(23, "none is one with itself", x.behind(k, true, k, true), NONE);
        Due.is(23, "none is one with itself", x.behind(k, false, k, false), NONE);
      }
    }
  }

  /** "what came by PAYS to all PAYEES who are of one with a HAND, less what they paid by SALES, as KNOWN now". */
  private static void grownByPays() {
    RowAuditor x = Tell.withHousesOn(5, 0, 0);
    x.things(0, false, 1);
    x.things(0, true, 1);
    x.things(19, true, 3);
    x.things(7, true, 2);
    x.things(8, true, 4);
    x.things(15, false, 2);
    Due.is(24, "nothing yet", x.grown(0), 0);
    Tell.pay(x, 0, 0, 0, 1, 9);
    Tell.pay(x, 1, 19, 5, 20, 9);
    Tell.pay(x, 0, 7, 0, 300, 9);
    Tell.pay(x, 0, 8, 0, 4000, 9);
    Due.is(24, "of three PAYEES", x.grown(0), 321);
    Due.is(24, "of one with it", x.grown(15), 321);
    Due.is(24, "of none", x.grown(9), 0);
    Tell.sale(x, 0, 7, 0, 321, 0);
    Due.is(24, "paid back", x.grown(0), 0);
    Tell.sale(x, 1, 19, 0, 1, 0);
    Due.is(24, "below 0", x.grown(0), -1);
    Tell.move(x, 0, 1, 0, 50000);
    Tell.guess(x, 0, 0, 50000, 0);
    Due.is(24, "MOVES and GUESSES say nothing", x.grown(0), -1);
    x.mend(0, MOST);
    x.mend(5, 0);
    Due.is(24, "as KNOWN now", x.grown(0), MOST + 20 + 300 - 321);
    Due.is(24, "no such HAND", x.grown(16), -1000000000);
    RowAuditor full = Tell.withHouses(0);
    full.things(3, false, 1);
    full.things(3, true, 1);
    for (int k = 0; k < 150; k++) {
      Tell.sale(full, 0, 3, 0, MOST, 0);
    }
    Due.is(24, "all SALES", full.grown(3), -150000000);
  }

  // ---- A SAMPLE ----

  /** "X is the seed (0 to 65535), each time X becomes (25173 X and 13849) modulo 65536; the coin is X times ..". */
  private static void drawsBySeed() {
    int[] seeds = {0, 1, 2, 3, 255, 256, 32767, 32768, 40000, TO_NOTHING, TO_MOST, 65534, 65535};
    for (int seed : seeds) {
      RowAuditor x = pairsOfCoins();
      long bigX = seed;
      java.util.ArrayList<Integer> drawn = new java.util.ArrayList<>();
      for (int n = 1; n <= 50; n++) {
        bigX = (25173 * bigX + 13849) % 65536;
        int row = (int) (bigX * 256 / 65536) / 2;
        if (!drawn.contains(row)) {
          drawn.add(row);
        }
        Due.is(25, n + " draws by " + seed, x.sample(n, seed, 0), drawn.size());
        Due.is(25, "the last of " + n + " draws by " + seed, x.sample(n, seed, 9 + drawn.size()),
            drawn.get(drawn.size() - 1));
        Due.is(25, "none behind it", x.sample(n, seed, 10 + drawn.size()), NONE);
      }
      for (int i = 0; i < drawn.size(); i++) {
        Due.is(25, "ROW " + i + " by " + seed, x.sample(50, seed, 10 + i), drawn.get(i));
      }
    }
    Due.is(25, "the first coin", pairsOfCoins().sample(1, TO_NOTHING, 10), 0);
    Due.is(25, "the last coin", pairsOfCoins().sample(1, TO_MOST, 10), 127);
  }

  /** 256 coins in all, one ROW for each of 128 pairs of them: ROW is X / 512. */
  private static RowAuditor pairsOfCoins() {
    RowAuditor x = Tell.withHouses(0);
    for (int k = 0; k < 128; k++) {
      Tell.guess(x, 0, 0, 2, 0);
    }
    return x;
  }

  /** "rounded down (counted from 0): the ROW in which it lies is drawn". */
  private static void coinsOfTheSample() {
    // Of 65536 coins the coin is X itself: 13849 by seed 0.
    for (int first = 13847; first <= 13851; first++) {
      RowAuditor x = Tell.withHouses(0);
      Tell.guess(x, 0, 0, first, 0);
      Tell.guess(x, 0, 0, 65536 - first, 0);
      Due.is(25, "coin 13849 behind " + first, x.sample(1, 0, 10), first > 13849 ? 0 : 1);
      Due.is(25, "coin 0", x.sample(1, TO_NOTHING, 10), 0);
      Due.is(25, "coin 65535", x.sample(1, TO_MOST, 10), 1);
    }
    RowAuditor last = Tell.withHouses(0);
    Tell.guess(last, 0, 0, 65535, 0);
    Tell.guess(last, 0, 0, 1, 0);
    Due.is(25, "the last coin alone", last.sample(1, TO_MOST, 10), 1);
    last.mend(1, 2);
    // 65535 times 65537 through 65536 is 65535: the last but one of all.
    Due.is(25, "the last but one", last.sample(1, TO_MOST, 10), 1);
    last.mend(0, 65536);
    last.mend(1, 1);
    Due.is(25, "the last but one is the other's", last.sample(1, TO_MOST, 10), 0);
    RowAuditor first = Tell.withHouses(0);
    Tell.guess(first, 0, 0, 1, 0);
    Tell.guess(first, 0, 0, MOST, 0);
    Due.is(25, "coin 0 alone", first.sample(1, TO_NOTHING, 10), 0);
    // 13849 times 4 through 65536 is 0.8; times 5 it is 1.05.
    RowAuditor down = Tell.withHouses(0);
    Tell.guess(down, 0, 0, 1, 0);
    Tell.guess(down, 0, 0, 3, 0);
    Due.is(25, "rounded down", down.sample(1, 0, 10), 0);
    down.mend(1, 4);
    Due.is(25, "coin 1", down.sample(1, 0, 10), 1);
    // The largest sum of all: X times 150 millions passes 32 bits.
    RowAuditor full = Tell.withHouses(0);
    for (int k = 0; k < 150; k++) {
      Tell.guess(full, 0, 0, MOST, 0);
    }
    Due.is(25, "ROW 31", full.sample(1, 0, 10), (int) (13849L * 150000000 / 65536 / MOST));
    Due.is(25, "ROW 149", full.sample(1, TO_MOST, 10), 149);
    Due.is(25, "upper of BOUNDS", full.sample(1, 0, 2), 149000000);
  }

  /** "one that was drawn counts once", "(by first drawing)", "n draws (1 to 50)". */
  private static void drawnOnce() {
    RowAuditor one = Tell.withHouses(0);
    Tell.guess(one, 0, 0, 1, 0);
    for (int n = 1; n <= 50; n++) {
      Due.is(25, n + " draws of one ROW", one.sample(n, n, 0), 1);
      Due.is(25, "it", one.sample(n, n, 10), 0);
      Due.is(25, "none such", one.sample(n, n, 11), NONE);
      Due.is(25, "it is right", one.sample(n, n, 2), 0);
    }
    Due.is(25, "51 draws", one.sample(51, 0, 0), NONE);
    Due.is(25, "no draw", one.sample(0, 0, 0), NONE);
    // X by seed 0: 13849, 48742, 31223: of four alike ROWS 0, 2, 1.
    RowAuditor x = Tell.withHouses(0);
    for (int k = 0; k < 4; k++) {
      Tell.guess(x, 0, 0, 5, 0);
    }
    int[] due = {0, 2, 1};
    for (int k = 0; k < 3; k++) {
      Due.is(25, "by first drawing", x.sample(3, 0, 10 + k), due[k]);
    }
    Due.is(25, "no fourth", x.sample(3, 0, 13), NONE);
    for (int what = 3; what < 10; what++) {
      Due.is(25, "what " + what, x.sample(3, 0, what), NONE);
    }
  }

  /** "WRONG: SUMS of drawn ones that are FINDINGS"; "BOUNDS .. that, and the sum of all less ..". */
  private static void boundsOfWrong() {
    RowAuditor x = Tell.withHouses(0);
    for (int k = 0; k < 4; k++) {
      Tell.guess(x, 0, 0, 5 + k % 2, k);
    }
    // Coins 4, 16 and 10 of 22: ROWS 0, 3 and 1; ROW 2 is not drawn.
    int[] due = {0, 3, 1};
    for (int k = 0; k < 3; k++) {
      Due.is(25, "ROW drawn", x.sample(3, 0, 10 + k), due[k]);
    }
    Due.is(25, "no FINDING", x.sample(3, 0, 1), 0);
    Due.is(25, "what was not drawn", x.sample(3, 0, 2), 5);
    Due.rule(x, "r(w=3)");
    Due.is(25, "one of 6", x.sample(3, 0, 1), 6);
    Due.is(25, "it, and what was not drawn", x.sample(3, 0, 2), 11);
    Due.rule(x, "r(w=2)");
    Due.is(25, "not drawn, not WRONG", x.sample(3, 0, 1), 6);
    Due.is(25, "it may be", x.sample(3, 0, 2), 11);
    Due.rule(x, "r(1=1)");
    Due.is(25, "all drawn", x.sample(3, 0, 1), 17);
    Due.is(25, "all may be", x.sample(3, 0, 2), 22);
    x.clear(3, 0);
    Due.is(25, "CLEARED", x.sample(3, 0, 1), 11);
    Due.is(25, "CLEARED", x.sample(3, 0, 2), 16);
    Due.rule(x, "l(w=0)");
    Due.is(25, "let", x.sample(3, 0, 1), 6);
    Due.is(25, "let", x.sample(3, 0, 2), 11);
  }

  private static void sampleAsKnownNow() {
    RowAuditor x = Tell.withHousesOn(3, 0);
    Tell.guess(x, 0, 3, 30, 0);
    Tell.guess(x, 0, 2, 10, 0);
    Due.is(25, "in THEIR ORDER", x.sample(1, TO_NOTHING, 10), 1);
    x.mend(1, 0);
    Due.is(25, "TAKEN OUT", x.sample(1, TO_NOTHING, 10), 0);
    Due.is(25, "it alone", x.sample(50, 0, 0), 1);
    Due.is(25, "nothing else", x.sample(50, 0, 2), 0);
    x.now(4);
    x.row(3, 0, NONE, 0, 0, 7, 0, NONE, NONE);
    Due.is(25, "told later, of an earlier DAY", x.sample(1, TO_NOTHING, 10), 2);
    Due.is(25, "its sum", x.sample(1, TO_MOST, 2), 7);
    x.mend(0, 0);
    x.mend(2, 0);
    for (int what : new int[] {0, 1, 2, 10}) {
      Due.is(25, "no ROW is KNOWN", x.sample(1, 0, what), NONE);
    }
  }

  // ---- ASKINGS ----

  /** "OPEN, LATE (no ANSWER, its DAY is past)"; "with a DAY by which an answer should come". */
  private static void openOrLate() {
    RowAuditor x = Tell.withHousesOn(5, 0);
    Tell.guess(x, 0, 0, 7, 0);
    int[] days = {6, 7, DAYS};
    for (int day : new int[] {5, 4, 0, -1, 4000}) {
      Due.is(26, "DAY " + day, x.ask(0, 0, day), NONE);
    }
    for (int k = 0; k < days.length; k++) {
      Due.is(26, "DAY " + days[k], x.ask(0, 0, days[k]), k);
    }
    for (int day : new int[] {5, 6, 7, 8, DAYS - 1, DAYS}) {
      x.now(day);
      for (int k = 0; k < days.length; k++) {
        Due.is(28, "of " + days[k] + " on " + day, x.asked(k), day > days[k] ? 1 : 0);
      }
      Due.is(26, "of NOW", x.ask(0, 0, day), NONE);
    }
    Due.is(26, "on the last DAY none can be asked", x.ask(0, 0, DAYS + 1), NONE);
    Due.is(36, "ASKINGS", x.count(6), 3);
    RowAuditor y = Tell.withHousesOn(DAYS - 1, 0);
    Tell.guess(y, 0, 0, 7, 0);
    Due.is(26, "the DAY before the last", y.ask(0, 0, DAYS), 0);
    y.mend(0, 0);
    Due.is(28, "without an ANSWER it is OPEN, though the ROW is not KNOWN", y.asked(0), 0);
    Due.is(26, "about what is TAKEN OUT", y.ask(15, 0, DAYS), 1);
  }

  /** "DENIED (the ANSWER is not the SUM as KNOWN now, or the ROW is not KNOWN), or ANSWERED". */
  private static void deniedOrAnswered() {
    RowAuditor x = Tell.withHouses(0);
    Tell.guess(x, 0, 0, 7, 0);
    Tell.guess(x, 0, 0, MOST, 0);
    int[] answers = {7, 6, 8, 0, MOST};
    for (int k = 0; k < answers.length; k++) {
      x.ask(0, 0, 1);
      Due.is(28, "OPEN", x.asked(k), 0);
      for (int wrong : new int[] {-1, MOST + 1, Integer.MIN_VALUE, Integer.MAX_VALUE}) {
        Due.is(27, "no such SUM", x.answer(k, wrong), false);
        Due.is(28, "OPEN still", x.asked(k), 0);
      }
      Due.is(27, "ANSWER", x.answer(k, answers[k]), true);
      Due.is(28, "an ANSWER of " + answers[k], x.asked(k), k == 0 ? 3 : 2);
      Due.is(27, "once", x.answer(k, 7), false);
      Due.is(28, "it stays", x.asked(k), k == 0 ? 3 : 2);
    }
    x.ask(0, 1, 1);
    x.answer(5, MOST);
    Due.is(28, "the largest SUM", x.asked(5), 3);
    // An ANSWER comes late: it is no more LATE.
    x.ask(0, 0, 1);
    x.now(3);
    Due.is(28, "LATE", x.asked(6), 1);
    Due.is(27, "late", x.answer(6, 7), true);
    Due.is(28, "ANSWERED", x.asked(6), 3);
    x.mend(0, 8);
    int[] due = {2, 2, 3, 2, 2, 3, 2};
    for (int k = 0; k < due.length; k++) {
      Due.is(28, "as KNOWN now", x.asked(k), due[k]);
    }
    x.mend(0, 0);
    for (int k = 0; k < due.length; k++) {
      Due.is(28, "the ROW is not KNOWN", x.asked(k), k == 5 ? 3 : 2);
    }
    Due.is(27, "no such ASKING", x.answer(7, 1), false);
    Due.is(28, "no such ASKING", x.asked(7), NONE);
  }

  // ---- IF FALSE ----

  /** "if no LEAVE by a told HAND were given (v -1 there)". */
  private static void leavesThoughtAway() {
    RowAuditor x = Tell.withHousesOn(2, 0);
    // The LEAVE is of HAND i, of the last one of none.
    for (int i = 0; i <= 16; i++) {
      x.row(3, 0, NONE, 1, i, 1 + i, i == 0 ? 1 : 0, i == 16 ? NONE : i == 0 ? 0 : i, NONE);
    }
    Due.rule(x, "r(v<0)");
    Due.is(12, "the one without", x.findings(2), 1);
    for (int hand = 0; hand < 16; hand++) {
      Due.is(29, "one more without HAND " + hand, x.ifFalse(hand), 2);
      Due.is(12, "nothing is changed", x.findings(2), 1);
      Due.is(35, "nothing is changed", x.look(hand, 7), hand);
    }
    Due.is(29, "HAND 16 is none", x.ifFalse(16), NONE);
    Due.is(29, "HAND -1 is none", x.ifFalse(-1), NONE);
    Due.rule(x, "l(v=0-1&s<17)");
    Due.is(29, "let without its LEAVE", x.ifFalse(3), 1);
    Due.rule(x, "r(v=15)");
    Due.is(12, "by its LEAVE", x.findings(2), 2);
    Due.is(29, "without its LEAVE", x.ifFalse(15), 1);
    Due.is(29, "others are as they are", x.ifFalse(14), 2);
    x.clear(15, 0);
    Due.is(29, "CLEARED", x.ifFalse(14), 1);
    Due.rule(x, "r(v<0)");
    x.now(3);
    x.mend(16, 0);
    Due.is(29, "TAKEN OUT", x.ifFalse(14), 1);
    Due.is(29, "CLEARED, if without its LEAVE", x.ifFalse(15), 0);
    // An x strikes all the same, and the letter stands in a MARK as told.
    Due.rule(x, "x3.0");
    Due.is(29, "STRUCK", x.ifFalse(14), 0);
    Due.is(20, "the LEAVE is given", x.ways(0, 3, 2, 5), 1);
  }

  // ---- PUT IN ----

  /** "PUT IN is a ROW (told once, by judges): FOUND are those of them that are FINDINGS." */
  private static void foundOnes() {
    RowAuditor x = Tell.withHousesOn(2, 0);
    for (int i = 0; i < 4; i++) {
      Tell.guess(x, 0, 0, 1 + i, 0);
    }
    Due.rule(x, "r(s>2)");
    found(x, 0, 0);
    Due.is(30, "PUT IN", x.putIn(0), true);
    found(x, 1, 0);
    Due.is(30, "PUT IN", x.putIn(3), true);
    found(x, 2, 1);
    Due.is(30, "told once", x.putIn(3), false);
    Due.is(30, "no such ROW", x.putIn(4), false);
    found(x, 2, 1);
    x.mend(0, 3);
    found(x, 2, 2);
    Due.is(30, "PUT IN", x.putIn(2), true);
    found(x, 3, 3);
    x.now(3);
    x.clear(2, 0);
    found(x, 3, 2);
    x.mend(3, 0);
    found(x, 2, 1);
    Due.is(30, "told once, TAKEN OUT or not", x.putIn(3), false);
    Due.is(30, "a new ROW is none yet", x.putIn(4), false);
    Tell.guess(x, 0, 0, 9, 0);
    found(x, 2, 1);
    Due.is(30, "PUT IN", x.putIn(4), true);
    found(x, 3, 2);
  }

  private static void found(RowAuditor x, int known, int found) {
    Due.is(31, "how many there are", x.found(0), known);
    Due.is(31, "how many are FOUND", x.found(1), found);
    Due.is(31, "no such what", x.found(2), NONE);
  }

  // ---- READINGS ----

  /** "of all sets that want nothing outside that of most worth". */
  private static void bestOfAll() {
    RowAuditor x = new RowAuditor();
    int[] hours = {1, 2, 4, 8, 16, 32, 64, 128, 256};
    for (int k = 0; k < 9; k++) {
      Due.is(33, "before", x.best(10000), (1 << k) - 1);
      x.reading(hours[k], 1 + hours[k], NONE);
    }
    for (int hour = 0; hour < 512; hour += hour < 20 || hour > 500 ? 1 : 13) {
      int worth = 0;
      int best = 0;
      for (int set = 0; set <= hour; set++) {
        if (set + Integer.bitCount(set) > worth) {
          worth = set + Integer.bitCount(set);
          best = set;
        }
      }
      Due.is(34, "worth", x.judge(x.best(hour)), worth);
      // The HOURS of a set are its bits: of like worth the least.
      Due.is(33, "with " + hour, x.best(hour), best);
    }
    Due.is(33, "all", x.best(511), 511);
    Due.is(33, "all", x.best(512), 511);
    Due.is(33, "all", x.best(10000), 511);
    RowAuditor dear = new RowAuditor();
    dear.reading(1000, 100000, NONE);
    dear.reading(1000, 99999, NONE);
    Due.is(33, "an hour too few", dear.best(999), 0);
    Due.is(33, "just so many", dear.best(1000), 1);
    Due.is(33, "an hour too few for both", dear.best(1999), 1);
    Due.is(33, "both", dear.best(2000), 3);
    Due.is(34, "both", dear.judge(3), 199999);
  }

  /** "of like ones of fewest HOURS; of like ones the least, as bits". */
  private static void bestOfLikeOnes() {
    RowAuditor x = new RowAuditor();
    x.reading(5, 10, NONE);
    x.reading(4, 10, NONE);
    x.reading(4, 10, NONE);
    x.reading(1, 0, NONE);
    Due.is(33, "of fewest HOURS", x.best(5), 2);
    Due.is(33, "of fewest HOURS, two of them", x.best(9), 6);
    Due.is(33, "of fewest HOURS, two of them", x.best(8), 6);
    Due.is(33, "one", x.best(7), 2);
    Due.is(33, "all that is worth something", x.best(10000), 7);
    Due.is(33, "nothing for nothing", x.best(3), 0);
    RowAuditor y = new RowAuditor();
    y.reading(3, 6, NONE);
    y.reading(2, 4, NONE);
    y.reading(1, 2, NONE);
    y.reading(3, 6, NONE);
    Due.is(33, "the least of three sets", y.best(3), 1);
    Due.is(33, "the least of two pairs", y.best(4), 5);
    Due.is(33, "the least of three", y.best(6), 7);
    RowAuditor free = new RowAuditor();
    free.reading(1, 0, NONE);
    Due.is(33, "worth nothing", free.best(10000), 0);
    free.reading(1, 1, 0);
    Due.is(33, "wanted by what is worth something", free.best(2), 3);
    Due.is(33, "too dear with what it wants", free.best(1), 0);
  }

  /** "may want an earlier READING done, too"; "-2: it wants something outside; NONE: no such set". */
  private static void setsThatWant() {
    RowAuditor x = new RowAuditor();
    Due.is(32, "wants itself", x.reading(1, 1, 0), NONE);
    Due.is(32, "the first", x.reading(1, 1, NONE), 0);
    Due.is(32, "wants itself", x.reading(1, 1, 1), NONE);
    Due.is(32, "wants a later one", x.reading(1, 1, 2), NONE);
    Due.is(32, "wants -2", x.reading(1, 1, -2), NONE);
    Due.is(32, "wants the first", x.reading(1, 10, 0), 1);
    Due.is(32, "wants the second", x.reading(1, 100, 1), 2);
    Due.is(32, "wants the first, too", x.reading(1, 1000, 0), 3);
    int[] due = {0, 1, -2, 11, -2, -2, -2, 111, -2, 1001, -2, 1011, -2, -2, -2, 1111};
    for (int set = 0; set < due.length; set++) {
      Due.is(34, "set " + set, x.judge(set), due[set]);
    }
    for (int set : new int[] {-1, 16, 17, 511, 512, Integer.MIN_VALUE, Integer.MAX_VALUE}) {
      Due.is(34, "no such set " + set, x.judge(set), NONE);
    }
    int[] best = {0, 1, 9, 11, 15};
    for (int hours = 0; hours < best.length; hours++) {
      Due.is(33, "with " + hours, x.best(hours), best[hours]);
    }
  }
}
