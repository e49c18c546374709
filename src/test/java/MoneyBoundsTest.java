import java.util.ArrayList;
import java.util.List;

/** PARTED, FOLLOWED, ROUNDS and CHAINS at their bounds. */
public final class MoneyBoundsTest {
  private static final int NONE = -1;
  private static final int DAYS = 3999;
  private static final int MOST = 1000000;

  private MoneyBoundsTest() { }

  public static void main(String[] args) {
    everySetOfTwelve();
    fewestThenLeast();
    noSuchSet();
    notKnownOrTwice();
    largestSums();
    partedAsKnownNow();
    coinsThatStay();
    coinsThatGo();
    coinsMixed();
    coinsLacking();
    coinsInOrder();
    coinsRoundAndBack();
    coinsGivenOtherwise();
    coinsOfTenHouses();
    coinsOfFullBooks();
    coinsAskedAgain();
    twoToSixMoves();
    intoAHouseTwice();
    withinDays();
    withinHundredths();
    laterInTheirOrder();
    roundsOfTenHouses();
    roundsTriedOneByOne();
    roundsCounted();
    fitsInOrder();
    fitsWithinDays();
    fitsOfASum();
    fitsByLetters();
    fitsCounted();
    theFirst();
    Due.end();
  }

  private static RowAuditor payers(int... sums) {
    RowAuditor x = Tell.withHouses(0);
    for (int sum : sums) {
      Tell.pay(x, 0, 0, 0, sum, 0);
    }
    return x;
  }

  private static int[] upTo(int n) {
    int[] rows = new int[n];
    for (int k = 0; k < n; k++) {
      rows[k] = k;
    }
    return rows;
  }

  // ---- PARTED ----

  /** "(12 at most)", "as bits by their places": of twelve ROWS each of the 4096 sets can be the one. */
  private static void everySetOfTwelve() {
    int all = (1 << 12) - 1;
    int[] powers = new int[12];
    for (int k = 0; k < 12; k++) {
      powers[k] = 1 << k;
    }
    RowAuditor x = null;
    for (int set = 0; set <= all; set++) {
      if (set % 120 == 0) {
        x = payers(powers);
      }
      Due.is(14, "set " + set, Due.parted(x, all - set, upTo(12)), set);
      Due.is(14, "empty then", x.count(8), 0);
    }
    for (int n = 1; n <= 12; n++) {
      Due.is(14, "all of " + n, Due.parted(payers(powers), 0, upTo(n)), (1 << n) - 1);
      Due.is(14, "the last of " + n, Due.parted(payers(powers), (1 << n - 1) - 1, upTo(n)), 1 << n - 1);
      Due.is(14, "none of " + n, Due.parted(payers(powers), (1 << n) - 1, upTo(n)), 0);
      Due.is(14, "theirs is one less, of " + n, Due.parted(payers(powers), 1 << n, upTo(n)), -2);
    }
  }

  /** "the fewest of them", "of like ones the least set". */
  private static void fewestThenLeast() {
    int[] alike = {5, 5, 5, 5, 5, 5, 5, 5, 5, 5, 5, 5};
    for (int size = 0; size <= 12; size++) {
      Due.is(14, size + " of twelve alike", Due.parted(payers(alike), 60 - 5 * size, upTo(12)), (1 << size) - 1);
    }
    // 3 is one ROW of 3 behind a 1 and a 2; 6 is two of 3 behind 1, 2 and 3.
    Due.is(14, "one for two", Due.parted(payers(1, 2, 3), 3, 0, 1, 2), 4);
    Due.is(14, "by places, not by numbers", Due.parted(payers(1, 2, 3), 3, 2, 1, 0), 1);
    Due.is(14, "two for three", Due.parted(payers(1, 2, 3, 3), 3, 0, 1, 2, 3), 12);
    Due.is(14, "the less of two pairs", Due.parted(payers(1, 4, 2, 3), 5, 0, 1, 2, 3), 3);
    Due.is(14, "the less of two pairs, turned", Due.parted(payers(1, 4, 2, 3), 5, 2, 3, 0, 1), 3);
    Due.is(14, "the less of two ROWS", Due.parted(payers(9, 4, 4, 9), 22, 3, 1, 2, 0), 2);
    Due.is(14, "a pair with the last against a pair without", Due.parted(payers(2, 3, 4, 1), 5, 0, 1, 2, 3), 3);
  }

  /** "-2: there is no such set, or theirs is less". */
  private static void noSuchSet() {
    Due.is(14, "just it", Due.parted(payers(10, 20), 30, 0, 1), 0);
    Due.is(14, "less by one", Due.parted(payers(10, 20), 31, 0, 1), -2);
    Due.is(14, "far less", Due.parted(payers(10, 20), 12000000, 0, 1), -2);
    Due.is(14, "above by less than the least", Due.parted(payers(10, 20), 21, 0, 1), -2);
    Due.is(14, "above by the least", Due.parted(payers(10, 20), 20, 0, 1), 1);
    Due.is(14, "above by one more", Due.parted(payers(10, 20), 19, 0, 1), -2);
    Due.is(14, "above by all but one coin", Due.parted(payers(10, 20), 1, 0, 1), -2);
    Due.is(14, "above by all", Due.parted(payers(10, 20), 0, 0, 1), 3);
    for (int sum : new int[] {30, 31, 21, 1}) {
      RowAuditor x = payers(10, 20);
      Due.parted(x, sum, 0, 1);
      Due.is(14, "empty then", x.count(8), 0);
    }
  }

  /** "-3: one is not KNOWN, or twice": whatever their sum. */
  private static void notKnownOrTwice() {
    for (int sum : new int[] {0, 10, 12000000}) {
      for (int place = 0; place < 12; place++) {
        int[] rows = upTo(12);
        for (int wrong : new int[] {13, 14, 127, 128, 149, 150, 255}) {
          RowAuditor x = payers(1, 2, 4, 8, 16, 32, 64, 128, 256, 512, 1024, 2048, 5, 5);
          x.mend(13, 0);
          rows[place] = wrong;
          Due.is(14, "ROW " + wrong + " at " + place, Due.parted(x, sum, rows), -3);
          Due.is(14, "empty then", x.count(8), 0);
        }
        rows[place] = (place + 5) % 12;
        Due.is(14, "twice, at " + place, Due.parted(payers(1, 1, 1, 1, 1, 1, 1, 1, 1, 1, 1, 1), sum, rows), -3);
      }
    }
    Due.is(14, "ROW 0 twice", Due.parted(payers(1, 2), 1, 0, 0), -3);
    Due.is(14, "ROW 12 is KNOWN", Due.parted(payers(1, 1, 1, 1, 1, 1, 1, 1, 1, 1, 1, 1, 7), 0, 12), 1);
    // The byte behind the told ones may be anything.
    Due.is(14, "only the first two", twoOf(payers(1, 2, 3), 0, 1, 1), 3);
    Due.is(14, "only the first two", twoOf(payers(1, 2, 3), 0, 1, 255), 3);
  }

  private static int twoOf(RowAuditor x, int... rows) {
    StringBuilder b = new StringBuilder();
    for (int i : rows) {
      b.append((char) i);
    }
    Due.feed(x, b.toString());
    return x.parted(0, 2);
  }

  private static void largestSums() {
    int[] most = new int[12];
    java.util.Arrays.fill(most, MOST);
    Due.is(14, "twelve millions", Due.parted(payers(most), 12000000, upTo(12)), 0);
    Due.is(14, "but one coin", Due.parted(payers(most), 11999999, upTo(12)), -2);
    Due.is(14, "but one ROW", Due.parted(payers(most), 11000000, upTo(12)), 1);
    Due.is(14, "none", Due.parted(payers(most), 0, upTo(12)), 4095);
    Due.is(14, "eleven are less", Due.parted(payers(most), 12000000, upTo(11)), -2);
    int[] least = new int[12];
    java.util.Arrays.fill(least, 1);
    Due.is(14, "twelve coins", Due.parted(payers(least), 12, upTo(12)), 0);
    Due.is(14, "thirteen", Due.parted(payers(least), 13, upTo(12)), -2);
  }

  /** "(as KNOWN now)". */
  private static void partedAsKnownNow() {
    RowAuditor x = payers(10, 20, 30);
    x.mend(0, 15);
    Due.is(14, "mended", Due.parted(x, 50, 0, 1, 2), 1);
    Due.is(14, "no more as it was told", Due.parted(x, 55, 0, 1, 2), -2);
    x.mend(1, 0);
    Due.is(14, "TAKEN OUT", Due.parted(x, 15, 0, 1), -3);
    Due.is(14, "without it", Due.parted(x, 15, 0, 2), 2);
    x.now(5);
    x.mend(0, 16);
    Due.is(14, "as KNOWN now", Due.parted(x, 30, 0, 2), 1);
  }

  // ---- FOLLOWED ----

  private static void followed(RowAuditor x, int a, int b, int least, int most) {
    Due.is(15, "from " + a + " in " + b + ", at most", x.followed(a, b, true), most);
    Due.is(15, "from " + a + " in " + b + ", at least", x.followed(a, b, false), least);
  }

  private static void coinsThatStay() {
    RowAuditor x = Tell.withHouses(0, 1, MOST);
    int[] first = {0, 1, MOST};
    for (int turn = 0; turn < 2; turn++) {
      for (int a = 0; a < 3; a++) {
        for (int b = 0; b < 3; b++) {
          followed(x, a, b, a == b ? first[a] : 0, a == b ? first[a] : 0);
        }
      }
      // What comes from outside, and what nobody gives, is nobody's that was there.
      Tell.sale(x, 0, 0, 0, MOST, 0);
      Tell.guess(x, 1, 0, MOST, 0);
    }
    RowAuditor ten = Tell.withHouses(9, 8, 7, 6, 5, 4, 3, 2, 1, 0);
    followed(ten, 9, 9, 0, 0);
    followed(ten, 0, 9, 0, 0);
    followed(ten, 8, 8, 1, 1);
    Due.is(15, "HOUSE 10 is none", ten.followed(9, 10, true), NONE);
  }

  /** A MOVE or a PAY of less than all, of all, of one more than all. */
  private static void coinsThatGo() {
    for (int sum = 1; sum <= 12; sum++) {
      int gone = Math.min(sum, 10);
      RowAuditor x = Tell.withHouses(10, 0, 3);
      Tell.move(x, 0, 1, 0, sum);
      followed(x, 0, 0, 10 - gone, 10 - gone);
      followed(x, 0, 1, gone, gone);
      followed(x, 0, 2, 0, 0);
      followed(x, 1, 1, 0, 0);
      followed(x, 2, 2, 3, 3);
      RowAuditor y = Tell.withHouses(10, 0);
      Tell.pay(y, 0, 0, 0, sum, 0);
      followed(y, 0, 0, 10 - gone, 10 - gone);
      followed(y, 0, 1, 0, 0);
    }
  }

  /** "Which of its coins a HOUSE gives is not told": ten of one's and five of its own. */
  private static void coinsMixed() {
    for (int sum = 1; sum <= 17; sum++) {
      for (int kind = 1; kind <= 2; kind++) {
        RowAuditor x = Tell.withHouses(10, 5, 0);
        Tell.move(x, 0, 1, 0, 10);
        x.row(kind, 1, kind == 2 ? 2 : 7, 0, 13, sum, 0, NONE, NONE);
        int given = Math.min(sum, 15);
        followed(x, 0, 1, Math.max(0, 10 - given), Math.min(10, 15 - given));
        followed(x, 1, 1, Math.max(0, 5 - given), Math.min(5, 15 - given));
        followed(x, 0, 2, kind == 1 ? 0 : Math.max(0, given - 5), kind == 1 ? 0 : Math.min(10, given));
        followed(x, 1, 2, kind == 1 ? 0 : Math.max(0, given - 10), kind == 1 ? 0 : Math.min(5, given));
        followed(x, 0, 0, 0, 0);
      }
    }
    // A SALE's coins are among those that may be given.
    RowAuditor x = Tell.withHouses(4, 0);
    Tell.sale(x, 0, 0, 0, 6, 0);
    Tell.move(x, 0, 1, 0, 7);
    followed(x, 0, 0, 0, 3);
    followed(x, 0, 1, 1, 4);
  }

  /** "what it lacks then is given by outside (it has none then; nobody gives that back)". */
  private static void coinsLacking() {
    RowAuditor x = Tell.withHouses(2, 0, 0);
    Tell.move(x, 0, 1, 0, 5);
    followed(x, 0, 1, 2, 2);
    Tell.move(x, 1, 2, 0, 1);
    followed(x, 0, 1, 1, 2);
    followed(x, 0, 2, 0, 1);
    Tell.move(x, 1, 2, 0, 2);
    followed(x, 0, 2, 0, 2);
    followed(x, 0, 1, 0, 2);
    Tell.move(x, 1, 2, 0, 2);
    followed(x, 0, 2, 2, 2);
    // Nobody gives back: what comes to HOUSE 0 is its own to give again, in full.
    Tell.sale(x, 0, 0, 0, 3, 0);
    Tell.move(x, 2, 0, 0, 5);
    followed(x, 0, 0, 2, 2);
    Tell.move(x, 0, 1, 0, 6);
    followed(x, 0, 1, 0, 2);
    followed(x, 0, 0, 0, 2);
    Tell.move(x, 0, 1, 0, 2);
    followed(x, 0, 1, 2, 2);
    Due.is(7, "it is below 0 in the books", x.holds(0, 0, 0), 2 - 5 + 3 + 5 - 6 - 2);
  }

  /** "by THEIR ORDER, as KNOWN now". */
  private static void coinsInOrder() {
    RowAuditor x = Tell.withHousesOn(5, 10, 0, 0);
    x.row(2, 1, 2, 3, 5, 10, 0, NONE, NONE);
    x.row(2, 0, 1, 3, 5, 10, 0, NONE, NONE);
    followed(x, 0, 1, 10, 10);
    RowAuditor hour = Tell.withHousesOn(5, 10, 0, 0);
    hour.row(2, 1, 2, 3, 5, 10, 0, NONE, NONE);
    hour.row(2, 0, 1, 3, 4, 10, 0, NONE, NONE);
    followed(hour, 0, 2, 10, 10);
    RowAuditor day = Tell.withHousesOn(5, 10, 0, 0);
    day.row(2, 1, 2, 3, 0, 10, 0, NONE, NONE);
    day.row(2, 0, 1, 2, 23, 10, 0, NONE, NONE);
    followed(day, 0, 2, 10, 10);
    day.mend(0, 4);
    followed(day, 0, 2, 4, 4);
    followed(day, 0, 1, 6, 6);
    day.now(6);
    day.mend(1, 0);
    followed(day, 0, 0, 10, 10);
    followed(day, 0, 2, 0, 0);
    day.row(2, 0, 1, 0, 0, 1, 0, NONE, NONE);
    followed(day, 0, 2, 1, 1);
  }

  private static void coinsRoundAndBack() {
    RowAuditor x = Tell.withHouses(10, 10);
    Tell.move(x, 0, 1, 0, 10);
    Tell.move(x, 1, 0, 0, 10);
    followed(x, 0, 0, 0, 10);
    followed(x, 0, 1, 0, 10);
    Tell.move(x, 0, 1, 0, 10);
    followed(x, 0, 1, 10, 10);
    followed(x, 1, 1, 10, 10);
    // Ten HOUSES in a row, each of which had one coin: the last may get any of them.
    RowAuditor row = Tell.withHouses(1, 1, 1, 1, 1, 1, 1, 1, 1, 1);
    for (int h = 0; h < 9; h++) {
      Tell.move(row, h, h + 1, 0, 1);
    }
    for (int a = 0; a < 10; a++) {
      followed(row, a, 9, a == 9 ? 1 : 0, 1);
      followed(row, a, 0, 0, 0);
    }
    RowAuditor all = Tell.withHouses(1, 1, 1, 1, 1, 1, 1, 1, 1, 1);
    for (int h = 0; h < 9; h++) {
      Tell.move(all, h, h + 1, 0, h + 1);
    }
    for (int a = 0; a < 10; a++) {
      followed(all, a, 9, 1, 1);
    }
    // All 150 ROWS to and fro.
    RowAuditor full = Tell.withHouses(MOST, MOST);
    for (int k = 0; k < 150; k++) {
      Tell.move(full, k % 2, 1 - k % 2, 0, 1);
    }
    followed(full, 0, 0, MOST - 75, MOST);
    followed(full, 0, 1, 0, 75);
  }

  /** Two coins reach the last HOUSE only if the first of them leaves the shorter way to the second. */
  private static void coinsGivenOtherwise() {
    RowAuditor x = Tell.withHouses(2, 1, 0, 0, 0, 0, 0);
    Tell.move(x, 0, 1, 0, 1);
    Tell.move(x, 0, 2, 0, 1);
    Tell.move(x, 1, 3, 0, 1);
    Tell.move(x, 1, 4, 0, 1);
    Tell.move(x, 2, 3, 0, 1);
    Tell.move(x, 3, 6, 0, 1);
    Tell.move(x, 4, 5, 0, 1);
    Tell.move(x, 5, 6, 0, 1);
    followed(x, 0, 6, 1, 2);
    followed(x, 0, 3, 0, 1);
    followed(x, 1, 6, 0, 1);
    followed(x, 1, 3, 0, 1);
    // A thousand times as many of each, and both ways turned.
    RowAuditor y = Tell.withHouses(0, 0, 0, 0, 0, 1000, 2000);
    Tell.move(y, 6, 5, 0, 1000);
    Tell.move(y, 6, 4, 0, 1000);
    Tell.move(y, 5, 3, 0, 1000);
    Tell.move(y, 5, 2, 0, 1000);
    Tell.move(y, 4, 3, 0, 1000);
    Tell.move(y, 3, 0, 0, 1000);
    Tell.move(y, 2, 1, 0, 1000);
    Tell.move(y, 1, 0, 0, 1000);
    followed(y, 6, 0, 1000, 2000);
    followed(y, 6, 3, 0, 1000);
    followed(y, 5, 0, 0, 1000);
    // Only 300 come by the second way, so only as many leave it to them.
    RowAuditor few = Tell.withHouses(0, 0, 0, 0, 0, 1000, 2000);
    Tell.move(few, 6, 5, 0, 1000);
    Tell.move(few, 6, 4, 0, 300);
    Tell.move(few, 5, 3, 0, 1000);
    Tell.move(few, 5, 2, 0, 1000);
    Tell.move(few, 4, 3, 0, 300);
    Tell.move(few, 3, 0, 0, 1000);
    Tell.move(few, 2, 1, 0, 1000);
    Tell.move(few, 1, 0, 0, 1000);
    followed(few, 6, 0, 1000, 1300);
    followed(few, 6, 6, 700, 700);
    // Two times 600 come by others: a thousand of them can, for only so many can leave it to them.
    RowAuditor twice = Tell.withHouses(2200, 2000, 0, 0, 0, 0, 0, 0);
    Tell.move(twice, 0, 1, 0, 1000);
    Tell.move(twice, 0, 2, 0, 600);
    Tell.move(twice, 0, 3, 0, 600);
    Tell.move(twice, 1, 4, 0, 1000);
    Tell.move(twice, 1, 5, 0, 2000);
    Tell.move(twice, 2, 4, 0, 600);
    Tell.move(twice, 3, 4, 0, 600);
    Tell.move(twice, 4, 7, 0, 1000);
    Tell.move(twice, 5, 6, 0, 2000);
    Tell.move(twice, 6, 7, 0, 2000);
    followed(twice, 0, 7, 1000, 2000);
    followed(twice, 0, 4, 200, 1200);
    followed(twice, 1, 7, 1000, 2000);
    followed(twice, 1, 4, 0, 1000);
  }

  /** The last HOUSE gives and gets as the first one does. */
  private static void coinsOfTenHouses() {
    for (int turn = 0; turn < 10; turn++) {
      RowAuditor x = Tell.withHouses(10, 10, 10, 10, 10, 10, 10, 10, 10, 10);
      int next = (turn + 1) % 10;
      int third = (turn + 2) % 10;
      Tell.move(x, turn, next, 0, 7);
      Tell.move(x, next, third, 0, 12);
      Tell.pay(x, third, 0, 0, 20, 0);
      followed(x, turn, turn, 3, 3);
      followed(x, turn, next, 0, 5);
      followed(x, turn, third, 0, 2);
      followed(x, next, third, 0, 2);
      followed(x, third, third, 0, 2);
    }
  }

  /** Ten HOUSES and 150 ROWS that all give: of 200 coins 75 go to the last HOUSE, 75 out of the firm. */
  private static void coinsOfFullBooks() {
    for (int giver = 0; giver < 9; giver++) {
      RowAuditor x = new RowAuditor();
      for (int h = 0; h < 10; h++) {
        x.house(h == giver ? 200 : 7);
      }
      for (int k = 0; k < 150; k++) {
        Due.is(4, "ROW " + k, k % 2 == 0 ? Tell.move(x, giver, 9, 0, 1) : Tell.pay(x, giver, 0, 0, 1, 0), k);
      }
      for (int b = 0; b < 10; b++) {
        int due = b == giver ? 50 : b == 9 ? 75 : 0;
        followed(x, giver, b, due, due);
        followed(x, 9, b, b == 9 ? 7 : 0, b == 9 ? 7 : 0);
      }
    }
    RowAuditor row = Tell.withHouses(150, 0, 0, 0, 0, 0, 0, 0, 0, 0);
    for (int k = 0; k < 150; k++) {
      Tell.move(row, k % 10, (k + 1) % 10, 0, 150);
    }
    for (int b = 0; b < 10; b++) {
      followed(row, 0, b, b == 0 ? 150 : 0, b == 0 ? 150 : 0);
    }
  }

  /** An answer is what it is alone, whatever was asked before. */
  private static void coinsAskedAgain() {
    for (int seed = 1; seed <= 12; seed++) {
      RowAuditor asked = mixedMoves(seed);
      for (int k = 0; k < 60; k++) {
        int a = k * 7 % 5;
        int b = (k / 5 + k) % 5;
        Due.is(15, "after " + k + " others, from " + a + " in " + b, asked.followed(a, b, k % 2 == 0),
            mixedMoves(seed).followed(a, b, k % 2 == 0));
        if (k % 20 == 19) {
          asked.rounds(DAYS, 100);
          asked.house(k);
        }
      }
    }
  }

  private static RowAuditor mixedMoves(int seed) {
    java.util.Random dice = new java.util.Random(seed);
    RowAuditor x = Tell.withHouses(20, 30, 40, 50, 60);
    for (int k = 0; k < 40; k++) {
      int from = dice.nextInt(5);
      if (dice.nextInt(5) == 0) {
        Tell.pay(x, from, 0, 0, 1 + dice.nextInt(9), 0);
      } else {
        Tell.move(x, from, (from + 1 + dice.nextInt(4)) % 5, 0, 1 + dice.nextInt(30));
      }
    }
    return x;
  }

  // ---- ROUNDS ----

  private static void rounds(RowAuditor x, int days, int hundredths, int due) {
    Due.is(16, "rounds(" + days + ", " + hundredths + ")", x.rounds(days, hundredths), due);
  }

  /** "two to six MOVES". */
  private static void twoToSixMoves() {
    for (int size = 2; size <= 10; size++) {
      RowAuditor x = Tell.withHouses(0, 0, 0, 0, 0, 0, 0, 0, 0, 0);
      for (int h = 0; h < size; h++) {
        rounds(x, DAYS, 100, 0);
        Tell.move(x, h, (h + 1) % size, 0, 7);
      }
      rounds(x, 0, 0, size <= 6 ? 1 : 0);
    }
    // Other kinds are no MOVES.
    RowAuditor x = Tell.withHouses(0, 0);
    Tell.move(x, 0, 1, 0, 7);
    Tell.pay(x, 1, 0, 0, 7, 0);
    Tell.sale(x, 1, 0, 0, 7, 0);
    Tell.guess(x, 1, 0, 7, 0);
    rounds(x, DAYS, 100, 0);
    Tell.move(x, 1, 0, 0, 7);
    rounds(x, 0, 0, 1);
  }

  /** "none of which goes into a HOUSE twice": nor home before the last. */
  private static void intoAHouseTwice() {
    RowAuditor x = Tell.withHouses(0, 0, 0);
    Tell.move(x, 0, 1, 0, 7);
    Tell.move(x, 1, 0, 0, 7);
    Tell.move(x, 0, 1, 0, 7);
    // 0 1 0 and 1 0 1, but not 0 1 0 1.
    rounds(x, 0, 0, 2);
    Tell.move(x, 1, 0, 0, 7);
    // 0 1 0 of the MOVES 0 1, 0 3, 2 3, and 1 0 1 of 1 2; not all four.
    rounds(x, 0, 0, 4);
    RowAuditor y = Tell.withHouses(0, 0, 0);
    Tell.move(y, 0, 1, 0, 7);
    Tell.move(y, 1, 2, 0, 7);
    Tell.move(y, 2, 1, 0, 7);
    Tell.move(y, 1, 0, 0, 7);
    // 0 1 0 and 1 2 1; 0 1 2 1 0 goes into 1 twice.
    rounds(y, 0, 0, 2);
  }

  /** "within told DAYS (last DAY less first)". */
  private static void withinDays() {
    RowAuditor x = Tell.withHousesOn(DAYS, 0, 0, 0);
    Tell.move(x, 0, 1, 0, 7);
    Tell.move(x, 1, 0, DAYS, 7);
    rounds(x, DAYS, 0, 1);
    rounds(x, DAYS - 1, 0, 0);
    rounds(x, 0, 0, 0);
    RowAuditor y = Tell.withHousesOn(20, 0, 0, 0);
    Tell.move(y, 0, 1, 3, 7);
    Tell.move(y, 1, 2, 7, 7);
    Tell.move(y, 2, 0, 9, 7);
    Tell.move(y, 2, 0, 10, 7);
    rounds(y, 5, 0, 0);
    rounds(y, 6, 0, 1);
    rounds(y, 7, 0, 2);
    y.mend(1, 0);
    rounds(y, DAYS, 100, 0);
  }

  /** "each SUM not farther from that of the first than told hundredths of that (rounded down)". */
  private static void withinHundredths() {
    for (int hundredths = 0; hundredths <= 100; hundredths++) {
      for (int first : new int[] {1, 99, 100, 199, 12345, MOST / 2}) {
        int farthest = (int) ((long) first * hundredths / 100);
        RowAuditor x = Tell.withHouses(0, 0, 0);
        Tell.move(x, 0, 1, 0, first);
        Tell.move(x, 1, 0, 0, first + farthest);
        rounds(x, 0, hundredths, 1);
        if (first + farthest < MOST) {
          x.mend(1, first + farthest + 1);
          rounds(x, 0, hundredths, 0);
        }
        x.mend(1, first - farthest == 0 ? 1 : first - farthest);
        rounds(x, 0, hundredths, 1);
        if (first - farthest > 1) {
          x.mend(1, first - farthest - 1);
          rounds(x, 0, hundredths, 0);
        }
      }
    }
    RowAuditor most = Tell.withHouses(0, 0);
    Tell.move(most, 0, 1, 0, MOST);
    Tell.move(most, 1, 0, 0, 1);
    rounds(most, 0, 100, 1);
    rounds(most, 0, 99, 0);
    most.mend(1, 10000);
    rounds(most, 0, 99, 1);
    rounds(most, 0, 98, 0);
    // Of the first, not of the one before, nor of the last.
    RowAuditor x = Tell.withHouses(0, 0, 0);
    Tell.move(x, 0, 1, 0, 100);
    Tell.move(x, 1, 2, 0, 110);
    Tell.move(x, 2, 0, 0, 120);
    rounds(x, 0, 10, 0);
    rounds(x, 0, 19, 0);
    rounds(x, 0, 20, 1);
    x.mend(2, 90);
    rounds(x, 0, 10, 1);
    x.mend(0, 110);
    x.mend(2, 100);
    rounds(x, 0, 9, 0);
    rounds(x, 0, 10, 1);
    x.mend(0, 91);
    x.mend(1, 100);
    rounds(x, 0, 9, 0);
    rounds(x, 0, 10, 1);
  }

  /** "each later in THEIR ORDER than the one before". */
  private static void laterInTheirOrder() {
    RowAuditor x = Tell.withHousesOn(9, 0, 0);
    x.row(2, 0, 1, 5, 5, 7, 0, NONE, NONE);
    x.row(2, 1, 0, 5, 4, 7, 0, NONE, NONE);
    // 1 0 1 alone: ROW 1 is before ROW 0 by its hour.
    rounds(x, 0, 0, 1);
    x.mend(0, 1);
    // The first is ROW 1 of 7; of ROW 0 with its 1 this is 6 away.
    rounds(x, 0, 85, 0);
    rounds(x, 0, 86, 1);
    x.row(2, 0, 1, 4, 23, 7, 0, NONE, NONE);
    // By its DAY the new one is the first of all: 0 1 0 with ROW 1.
    rounds(x, 1, 0, 1);
    rounds(x, 0, 0, 0);
    RowAuditor y = Tell.withHouses(0, 0, 0);
    Tell.move(y, 1, 2, 0, 7);
    Tell.move(y, 0, 1, 0, 7);
    Tell.move(y, 2, 0, 0, 7);
    // 1 2 0 1 wants the MOVE from 0 behind that from 2.
    rounds(y, 0, 0, 0);
    Tell.move(y, 0, 1, 0, 7);
    rounds(y, 0, 0, 1);
  }

  /** From one HOUSE by any up to four of eight others, in their order, to the last one and home: 163 ways. */
  private static void roundsOfTenHouses() {
    for (int turn = 0; turn < 10; turn++) {
      for (int step : new int[] {1, 3, 7, 9}) {
        RowAuditor x = Tell.withHouses(0, 0, 0, 0, 0, 0, 0, 0, 0, 0);
        for (int from = 0; from < 10; from++) {
          for (int into = from + 1; into < 10; into++) {
            Tell.move(x, (from * step + turn) % 10, (into * step + turn) % 10, 0, 7);
          }
        }
        rounds(x, 0, 0, 0);
        Tell.move(x, (9 * step + turn) % 10, turn, 0, 7);
        rounds(x, 0, 0, 1 + 8 + 28 + 56 + 70);
        Tell.move(x, (9 * step + turn) % 10, (step + turn) % 10, 0, 7);
        // Home is the second HOUSE, too: by up to four of seven.
        rounds(x, 0, 0, 163 + 1 + 7 + 21 + 35 + 35);
        Tell.move(x, (8 * step + turn) % 10, turn, 0, 7);
        rounds(x, 0, 0, 163 + 99 + 1 + 7 + 21 + 35 + 35);
      }
    }
  }

  /** Moves to and fro among few and many HOUSES, against an oracle that tries all rows of them. */
  private static void roundsTriedOneByOne() {
    for (int seed = 1; seed <= 60; seed++) {
      java.util.Random dice = new java.util.Random(seed);
      int houses = 2 + dice.nextInt(9);
      RowAuditor x = new RowAuditor();
      Oracle o = new Oracle();
      for (int h = 0; h < houses; h++) {
        x.house(0);
        o.house(0);
      }
      int size = 20 + dice.nextInt(houses > 5 ? 40 : 20);
      for (int k = 0; k < size; k++) {
        int from = dice.nextInt(houses);
        int[] a = {2, from, (from + 1 + dice.nextInt(houses - 1)) % houses, 0, dice.nextInt(24), 1 + dice.nextInt(9), 0,
          NONE, NONE};
        Due.is(4, "a MOVE", x.row(a[0], a[1], a[2], a[3], a[4], a[5], a[6], a[7], a[8]), o.row(a));
      }
      for (int hundredths : new int[] {0, 30, 50, 100}) {
        int due = o.rounds(0, hundredths);
        if (due != Oracle.UNSURE) {
          rounds(x, 0, hundredths, due);
        }
      }
    }
  }

  /** "how many", "(100000 at most.)" */
  private static void roundsCounted() {
    // 41 * 42 * 58 by three HOUSES and 41 * 3 by two make 99999.
    RowAuditor x = Tell.withHouses(0, 0, 0, 0, 0);
    moves(x, 41, 0, 1);
    moves(x, 42, 1, 2);
    moves(x, 58, 2, 0);
    moves(x, 3, 1, 0);
    rounds(x, 0, 0, 99999);
    moves(x, 1, 3, 4);
    moves(x, 1, 4, 3);
    rounds(x, 0, 0, 100000);
    moves(x, 1, 4, 3);
    rounds(x, 0, 0, 100000);
    x.mend(0, 0);
    rounds(x, 0, 0, 40 * 42 * 58 + 40 * 3 + 2);
    RowAuditor y = Tell.withHouses(0, 0, 0, 0, 0, 0);
    for (int h = 0; h < 6; h++) {
      moves(y, 25, h, (h + 1) % 6);
    }
    rounds(y, 0, 0, 100000);
  }

  private static void moves(RowAuditor x, int times, int from, int to) {
    for (int k = 0; k < times; k++) {
      Tell.move(x, from, to, 0, 7);
    }
  }

  // ---- CHAINS ----

  private static void fits(RowAuditor x, int c, int days, int sum, int due, int... first) {
    Due.is(18, "fits(" + c + ", " + days + ", " + sum + ")", x.fits(c, days, sum), due);
    List<Integer> rows = new ArrayList<>();
    for (int i : first) {
      rows.add(i);
    }
    for (int i = -1; i <= 4; i++) {
      int row = i >= 0 && i < rows.size() ? rows.get(i) : NONE;
      Due.is(19, "fitted(" + c + ", " + days + ", " + sum + ", " + i + ")", x.fitted(c, days, sum, i), row);
    }
  }

  /** "one for each STEP, each later than the one before in THEIR ORDER", "if each STEP's C holds". */
  private static void fitsInOrder() {
    RowAuditor x = Tell.withHousesOn(9, 0);
    x.row(3, 0, NONE, 5, 5, 1, 0, NONE, NONE);
    x.row(3, 0, NONE, 5, 4, 2, 0, NONE, NONE);
    x.row(3, 0, NONE, 4, 6, 3, 0, NONE, NONE);
    x.row(3, 0, NONE, 5, 5, 4, 0, NONE, NONE);
    // In THEIR ORDER: ROWS 2, 1, 0, 3.
    Due.chain(x, "(s>0)");
    fits(x, 0, 0, 0, 4, 0);
    Due.chain(x, "(s>0);(s>0)");
    fits(x, 1, DAYS, 0, 6, 0, 3);
    Due.chain(x, "(s>0);(s>0);(s>0)");
    fits(x, 2, DAYS, 0, 4, 1, 0, 3);
    Due.chain(x, "(s>0);(s>0);(s>0);(s>0)");
    fits(x, 3, DAYS, 0, 1, 2, 1, 0, 3);
    Due.chain(x, "(s=1);(s=3)");
    fits(x, 4, DAYS, 0, 0);
    Due.chain(x, "(s=3);(s=1)");
    fits(x, 5, DAYS, 0, 1, 2, 0);
    x.mend(1, 0);
    fits(x, 3, DAYS, 0, 0);
    fits(x, 2, DAYS, 0, 1, 2, 0, 3);
    fits(x, 0, 0, 0, 3, 0);
    RowAuditor none = Tell.withHouses(0);
    Due.chain(none, "(1=1)");
    fits(none, 0, DAYS, 0, 0);
    Tell.guess(none, 0, 0, 1, 0);
    fits(none, 0, 0, 0, 1, 0);
    Due.chain(none, "(1=1);(1=1)");
    fits(none, 1, DAYS, 0, 0);
  }

  /** "within told DAYS (last less first)". */
  private static void fitsWithinDays() {
    RowAuditor x = Tell.withHousesOn(DAYS, 0);
    for (int day : new int[] {0, 4, 6, DAYS}) {
      Tell.guess(x, 0, day, 1, 0);
    }
    Due.chain(x, "(1=1);(1=1)");
    fits(x, 0, 0, 0, 0);
    fits(x, 0, 1, 0, 0);
    fits(x, 0, 2, 0, 1, 1, 2);
    fits(x, 0, 3, 0, 1, 1, 2);
    fits(x, 0, 4, 0, 2, 0, 1);
    fits(x, 0, 5, 0, 2, 0, 1);
    fits(x, 0, 6, 0, 3, 0, 1);
    fits(x, 0, DAYS - 1, 0, 5, 0, 1);
    fits(x, 0, DAYS, 0, 6, 0, 1);
    Due.chain(x, "(1=1);(1=1);(1=1)");
    fits(x, 1, 5, 0, 0);
    fits(x, 1, 6, 0, 1, 0, 1, 2);
    fits(x, 1, DAYS - 5, 0, 1, 0, 1, 2);
    fits(x, 1, DAYS - 4, 0, 2, 0, 1, 2);
    fits(x, 1, DAYS - 1, 0, 2, 0, 1, 2);
    fits(x, 1, DAYS, 0, 4, 0, 1, 2);
  }

  /** "their SUMS together are told ones or more". */
  private static void fitsOfASum() {
    RowAuditor x = Tell.withHouses(0);
    for (int sum : new int[] {1, 10, 100, 1000}) {
      Tell.guess(x, 0, 0, sum, 0);
    }
    Due.chain(x, "(1=1)");
    int[] sums = {0, 1, 2, 10, 11, 100, 101, 1000, 1001};
    int[] due = {4, 4, 3, 3, 2, 2, 1, 1, 0};
    for (int k = 0; k < sums.length; k++) {
      if (due[k] > 0) {
        fits(x, 0, 0, sums[k], due[k], 4 - due[k]);
      } else {
        fits(x, 0, 0, sums[k], 0);
      }
    }
    Due.chain(x, "(1=1);(1=1)");
    fits(x, 1, 0, 11, 6, 0, 1);
    fits(x, 1, 0, 12, 5, 0, 2);
    fits(x, 1, 0, 101, 5, 0, 2);
    fits(x, 1, 0, 102, 4, 0, 3);
    fits(x, 1, 0, 1001, 3, 0, 3);
    fits(x, 1, 0, 1002, 2, 1, 3);
    fits(x, 1, 0, 1100, 1, 2, 3);
    fits(x, 1, 0, 1101, 0);
    Due.chain(x, "(1=1);(1=1);(1=1);(1=1)");
    fits(x, 2, 0, 1111, 1, 0, 1, 2, 3);
    fits(x, 2, 0, 1112, 0);
    RowAuditor most = Tell.withHouses(0);
    for (int k = 0; k < 5; k++) {
      Tell.guess(most, 0, 0, MOST, 0);
    }
    Due.chain(most, "(1=1);(1=1);(1=1);(1=1)");
    fits(most, 0, 0, 4000000, 5, 0, 1, 2, 3);
    Due.is(18, "a coin more is none", most.fits(0, 0, 4000001), NONE);
    most.mend(4, 999999);
    fits(most, 0, 0, 4000000, 1, 0, 1, 2, 3);
    fits(most, 0, 0, 3999999, 5, 0, 1, 2, 3);
  }

  /** "p with the PAYEE of the first STEP's ROW, w with its HAND, o with its HOUSE". */
  private static void fitsByLetters() {
    // The last three differ from the first in one each; the fourth in nothing.
    int[][] rows = {{4, 1, 0}, {5, 1, 0}, {4, 2, 0}, {4, 1, 1}, {4, 1, 0}};
    String[] letters = {"", "p", "w", "o", "pw", "po", "wo", "pwo"};
    int[][] fitting = {{1, 2, 3, 4}, {2, 3, 4}, {1, 3, 4}, {1, 2, 4}, {3, 4}, {2, 4}, {1, 4}, {4}};
    for (int k = 0; k < letters.length; k++) {
      RowAuditor x = Tell.withHouses(0, 0);
      for (int i = 0; i < rows.length; i++) {
        int[] a = rows[i];
        x.row(i % 2, a[2], a[0], 0, i, 1 + i, a[1], NONE, NONE);
      }
      Due.chain(x, "(s=1);(1=1)" + letters[k]);
      fits(x, 0, 0, 0, fitting[k].length, 0, fitting[k][0]);
      // Of the first STEP's ROW, not of the one before.
      Due.chain(x, "(s=1);(s=2);(s>2)" + letters[k]);
      int count = 0;
      int first = NONE;
      for (int i : fitting[k]) {
        count += i > 1 ? 1 : 0;
        first = i > 1 && first == NONE ? i : first;
      }
      fits(x, 1, 0, 0, count, 0, 1, first);
    }
    // A PAYEE's number is none of a HOUSE's or a HAND's; a MOVE has no PAYEE.
    RowAuditor x = Tell.withHouses(0, 0);
    Tell.pay(x, 0, 1, 0, 1, 1);
    Tell.move(x, 0, 1, 0, 1);
    Tell.pay(x, 1, 0, 0, 1, 0);
    Due.chain(x, "(k=1&h=12);(k>0)p");
    fits(x, 0, 0, 0, 0);
    Due.chain(x, "(k=1&h=12);(k>0)w");
    fits(x, 1, 0, 0, 0);
    Due.chain(x, "(k=1&h=12);(k>0)o");
    fits(x, 2, 0, 0, 1, 0, 1);
  }

  /** "how many such rows", "(100000 at most.)" */
  private static void fitsCounted() {
    RowAuditor x = Tell.withHouses(0);
    for (int k = 0; k < 140; k++) {
      int group = k < 50 ? 0 : k < 90 ? 1 : 2;
      int sum = k == 0 || k == 50 || k == 90 ? 1 : 9;
      x.row(3, 0, NONE, 0, group, sum, 0, NONE, NONE);
    }
    Due.chain(x, "(h=0);(h=1);(h=2)");
    // 50 * 40 * 50 in all; but one has a SUM of 3; those of 11 have two such.
    Due.is(18, "all", x.fits(0, 0, 3), 100000);
    Due.is(18, "all but one", x.fits(0, 0, 4), 99999);
    Due.is(18, "all but one", x.fits(0, 0, 11), 99999);
    Due.is(18, "all without two of 1", x.fits(0, 0, 12), 99999 - 49 - 39 - 49);
    Due.is(18, "all of 9", x.fits(0, 0, 27), 49 * 39 * 49);
    Due.is(18, "none", x.fits(0, 0, 28), 0);
    x.row(3, 0, NONE, 0, 2, 9, 0, NONE, NONE);
    Due.is(18, "one more of the last", x.fits(0, 0, 3), 100000);
    Due.is(18, "one more of the last", x.fits(0, 0, 4), 100000);
    Due.is(18, "all of 9", x.fits(0, 0, 27), 49 * 39 * 50);
    Due.is(19, "the first of all", x.fitted(0, 0, 3, 2), 90);
    Due.is(19, "the first of 4", x.fitted(0, 0, 4, 2), 91);
  }

  /** "THE FIRST: the least row by numbers of ROWS, STEP by STEP." */
  private static void theFirst() {
    RowAuditor x = Tell.withHousesOn(9, 0);
    // The higher the number the earlier the hour, but the last two.
    for (int i = 0; i < 6; i++) {
      x.row(3, 0, NONE, 3, i < 4 ? 10 - i : 18 + i, 1 + i, 0, NONE, NONE);
    }
    // In THEIR ORDER: 3, 2, 1, 0, 4, 5.
    Due.chain(x, "(1=1);(1=1)");
    fits(x, 0, 0, 0, 15, 0, 4);
    fits(x, 0, 0, 7, 9, 0, 5);
    fits(x, 0, 0, 8, 6, 1, 5);
    fits(x, 0, 0, 9, 4, 2, 5);
    fits(x, 0, 0, 10, 2, 3, 5);
    fits(x, 0, 0, 11, 1, 4, 5);
    Due.chain(x, "(s>1);(1=1);(1=1)");
    // Of all twenty but that which begins with ROW 0.
    fits(x, 1, 0, 0, 19, 1, 0, 4);
    x.mend(0, 0);
    fits(x, 0, 0, 0, 10, 1, 4);
  }
}
