/** The document's Terms, sentence by sentence: what each one says at its bounds. */
public final class TermBoundsTest {
  private static final int NONE = -1;
  private static final int DAYS = 3999;
  private static final int MOST = 1000000;

  private TermBoundsTest() { }

  public static void main(String[] args) {
    nowIsADay();
    rowsAsTold();
    mendedFromThenOn();
    takenOut();
    knownOnADay();
    theirOrder();
    holdsUpToADay();
    holdsBelowNothing();
    inForce();
    letByRules();
    striking();
    highestRule();
    clearedFromThenOn();
    findingsOnADay();
    countedOnADay();
    Due.end();
  }

  // ---- "DAYS 0 to 3999; NOW is one of them (0 at first), never back." ----

  private static void nowIsADay() {
    RowAuditor x = new RowAuditor();
    Due.is(2, "NOW at first", x.count(0), 0);
    int[] days = {0, 1, 1, 2, 3998, 3998, 3999, 3999};
    for (int day : days) {
      Due.is(2, "back from " + x.count(0), x.now(x.count(0) - 1), false);
      Due.is(2, "now(" + day + ")", x.now(day), true);
      Due.is(2, "NOW", x.count(0), day);
      Due.is(2, "behind the last", x.now(4000), false);
      Due.is(2, "far behind the last", x.now(Integer.MAX_VALUE), false);
      Due.is(2, "far back", x.now(Integer.MIN_VALUE), false);
      Due.is(2, "NOW", x.count(0), day);
    }
  }

  // ---- "ROWS 0 to 149, told at NOW" ----

  /** All that a ROW is told with is looked at again: the least and the most of each. */
  private static void rowsAsTold() {
    RowAuditor x = Tell.withHousesOn(DAYS, 0, 0, 0, 0, 0, 0, 0, 0, 0, 0);
    int[][] told = {{0, 0, 0, 0, 0, 1, 0, NONE, NONE}, {0, 9, 19, DAYS, 23, MOST, 15, 14, 99},
      {1, 0, 0, 0, 0, 1, 0, 15, 0}, {1, 9, 19, DAYS, 23, MOST, 15, 0, 99}, {2, 0, 9, 0, 0, 1, 0, 1, NONE},
      {2, 9, 0, DAYS, 23, MOST, 15, NONE, 99}, {3, 0, NONE, 0, 0, 1, 0, NONE, NONE},
      {3, 9, NONE, DAYS, 23, MOST, 15, 0, 99}, {2, 0, 1, 0, 0, 1, 1, 0, NONE}, {2, 1, 0, 0, 0, 1, 1, 2, NONE}};
    for (int i = 0; i < told.length; i++) {
      int[] a = told[i];
      Due.is(4, "ROW " + i, x.row(a[0], a[1], a[2], a[3], a[4], a[5], a[6], a[7], a[8]), i);
    }
    for (int i = 0; i < told.length; i++) {
      for (int what = 0; what < 9; what++) {
        Due.is(35, "ROW " + i + ", what " + what, x.look(i, what), told[i][what]);
      }
      Due.is(35, "told", x.look(i, 9), DAYS);
      Due.is(35, "not CLEARED", x.look(i, 10), NONE);
    }
    RowAuditor y = Tell.withHousesOn(7, 0, 0);
    Due.is(4, "of NOW", Tell.guess(y, 0, 7, 1, 0), 0);
    Due.is(4, "of the next DAY", Tell.guess(y, 0, 8, 1, 0), NONE);
    y.now(8);
    Due.is(4, "of the DAY that it is now", Tell.guess(y, 0, 8, 1, 0), 1);
    Due.is(4, "of a DAY past", Tell.guess(y, 0, 7, 1, 0), 2);
    int[] days = {7, 8, 8};
    for (int i = 0; i < 3; i++) {
      Due.is(35, "told", y.look(i, 9), days[i]);
    }
    // A HOUSE that comes later can be gone into from then on.
    Due.is(4, "no such HOUSE yet", Tell.move(y, 0, 2, 8, 1), NONE);
    y.house(0);
    Due.is(4, "into the new HOUSE", Tell.move(y, 0, 2, 8, 1), 3);
  }

  // ---- "A ROW may be MENDED at NOW: another SUM from then on (of several the latest), or none any more" ----

  private static void mendedFromThenOn() {
    RowAuditor x = Tell.withHousesOn(2, 0);
    Tell.pay(x, 0, 0, 0, 10, 0);
    Due.is(5, "on the day it was told", x.mend(0, 11), true);
    x.now(4);
    x.mend(0, 12);
    x.mend(0, MOST);
    x.now(5);
    x.mend(0, 1);
    x.mend(0, 1);
    x.now(DAYS);
    x.mend(0, 14);
    int[] t = {0, 1, 2, 3, 4, 5, 6, 3998, DAYS};
    int[] sums = {NONE, NONE, 11, 11, MOST, 1, 1, 1, 14};
    for (int k = 0; k < t.length; k++) {
      Due.is(6, "SUM as KNOWN on " + t[k], x.known(0, t[k], 0), sums[k]);
      Due.is(7, "HOLDS as KNOWN on " + t[k], x.holds(0, DAYS, t[k]), sums[k] == NONE ? 0 : -sums[k]);
    }
    Due.is(36, "MENDINGS", x.count(4), 6);
    Due.is(35, "the SUM as it was told", x.look(0, 5), 10);
    Due.is(35, "the DAY on which it was told", x.look(0, 9), 2);
    // The latest, whatever was mended between.
    RowAuditor y = Tell.withHouses(0);
    Tell.pay(y, 0, 0, 0, 1, 0);
    Tell.pay(y, 0, 0, 0, 2, 0);
    y.mend(0, 5);
    y.mend(1, 6);
    y.mend(0, 7);
    y.mend(1, 2);
    Due.is(6, "of several the latest", y.known(0, 0, 0), 7);
    Due.is(6, "back to what was told", y.known(1, 0, 0), 2);
  }

  private static void takenOut() {
    RowAuditor x = Tell.withHousesOn(3, 0);
    for (int k = 0; k < 3; k++) {
      Tell.pay(x, 0, 0, k, 10, 0);
    }
    x.now(5);
    Due.is(5, "out", x.mend(1, 0), true);
    for (int sum : new int[] {0, 1, MOST}) {
      Due.is(5, "it is TAKEN OUT", x.mend(1, sum), false);
    }
    Due.is(36, "what is refused is no MENDING", x.count(4), 1);
    x.now(6);
    Due.is(5, "later, too", x.mend(1, 1), false);
    int[] t = {2, 3, 4, 5, 6, DAYS};
    int[] sums = {NONE, 10, 10, NONE, NONE, NONE};
    int[] places = {NONE, 2, 2, 1, 1, 1};
    for (int k = 0; k < t.length; k++) {
      Due.is(6, "SUM on " + t[k], x.known(1, t[k], 0), sums[k]);
      Due.is(6, "place on " + t[k], x.known(1, t[k], 1), sums[k] == NONE ? NONE : 1);
      Due.is(10, "BROKEN on " + t[k], x.broken(1, t[k]), sums[k] == NONE ? NONE : -2);
      Due.is(6, "place of the last on " + t[k], x.known(2, t[k], 1), places[k]);
    }
    // On the very day on which it was told it was never KNOWN.
    Tell.pay(x, 0, 0, 6, 10, 0);
    x.mend(3, 0);
    for (int day : new int[] {5, 6, DAYS}) {
      Due.is(6, "told and TAKEN OUT on one DAY", x.known(3, day, 0), NONE);
    }
    // Mended first, then out.
    x.mend(0, 99);
    x.now(8);
    x.mend(0, 0);
    Due.is(6, "before", x.known(0, 5, 0), 10);
    Due.is(6, "mended", x.known(0, 7, 0), 99);
    Due.is(6, "out", x.known(0, 8, 0), NONE);
  }

  // ---- "KNOWN on a DAY t: ROWS told by t, with the SUM of the latest MENDING told by t, but those TAKEN OUT" ----

  private static void knownOnADay() {
    RowAuditor x = Tell.withHouses(0);
    Tell.guess(x, 0, 0, 1, 0);
    x.now(DAYS);
    Tell.guess(x, 0, 0, 1, 0);
    Due.is(6, "told on the first DAY", x.known(0, 0, 0), 1);
    Due.is(6, "told on the last DAY", x.known(1, DAYS, 0), 1);
    Due.is(6, "the DAY before", x.known(1, DAYS - 1, 0), NONE);
    Due.is(6, "not by its own DAY", x.known(1, 0, 0), NONE);
    // A DAY ahead of NOW: what is told by NOW.
    RowAuditor y = Tell.withHousesOn(3, 0);
    Tell.guess(y, 0, 3, 8, 0);
    Due.is(6, "on a DAY ahead", y.known(0, DAYS, 0), 8);
    y.mend(0, 9);
    Due.is(6, "on a DAY ahead", y.known(0, 4, 0), 9);
    Due.is(6, "on the DAY before", y.known(0, 2, 0), NONE);
  }

  // ---- "THEIR ORDER: by DAYS, then HOURS, then numbers." ----

  private static void theirOrder() {
    RowAuditor x = Tell.withHousesOn(5, 0);
    int[][] dayAndHour = {{3, 0}, {2, 23}, {3, 0}, {2, 22}, {0, 23}, {5, 0}, {2, 23}, {0, 0}, {4, 12}};
    int[] places = {5, 3, 6, 2, 1, 8, 4, 0, 7};
    for (int[] a : dayAndHour) {
      x.row(3, 0, NONE, a[0], a[1], 1, 0, NONE, NONE);
    }
    for (int i = 0; i < places.length; i++) {
      Due.is(6, "place of ROW " + i, x.known(i, 5, 1), places[i]);
    }
    Due.rule(x, "r(1=1)");
    for (int i = 0; i < places.length; i++) {
      Due.is(13, "finding " + places[i], x.finding(5, places[i]), i);
    }
    // Another SUM is no other place; one TAKEN OUT leaves none.
    x.mend(4, 9);
    x.mend(3, 0);
    int[] then = {4, 2, 5, NONE, 1, 7, 3, 0, 6};
    for (int i = 0; i < then.length; i++) {
      Due.is(6, "place of ROW " + i, x.known(i, 5, 1), then[i]);
    }
    // Told later, of an earlier hour: all others move on from then on.
    x.now(6);
    x.row(3, 0, NONE, 0, 0, 1, 0, NONE, NONE);
    Due.is(6, "the first still", x.known(7, 6, 1), 0);
    Due.is(6, "behind it by its number", x.known(9, 6, 1), 1);
    Due.is(6, "one place on", x.known(4, 6, 1), 2);
    Due.is(6, "as it was", x.known(4, 5, 1), 1);
  }

  // ---- HOLDS ----

  /** "what a HOUSE has at the end of a DAY d as KNOWN on t: its sum at first and what came less what went". */
  private static void holdsUpToADay() {
    RowAuditor x = Tell.withHousesOn(9, 1000, 50);
    x.row(0, 0, 1, 3, 23, 1, 0, NONE, NONE);
    x.row(1, 0, 1, 4, 0, 20, 0, NONE, NONE);
    x.row(2, 0, 1, 5, 0, 300, 0, NONE, NONE);
    x.row(2, 1, 0, 6, 0, 4000, 0, NONE, NONE);
    x.row(3, 0, NONE, 3, 0, 50000, 0, NONE, NONE);
    int[] d = {0, 2, 3, 4, 5, 6, 7, DAYS};
    int[] zero = {1000, 1000, 1001, 981, 681, 4681, 4681, 4681};
    int[] one = {50, 50, 50, 50, 350, -3650, -3650, -3650};
    for (int k = 0; k < d.length; k++) {
      Due.is(7, "HOUSE 0 by " + d[k], x.holds(0, d[k], 9), zero[k]);
      Due.is(7, "HOUSE 1 by " + d[k], x.holds(1, d[k], 9), one[k]);
      Due.is(7, "HOUSE 0 by " + d[k] + " on the DAY before", x.holds(0, d[k], 8), 1000);
      Due.is(7, "HOUSE 1 by " + d[k] + " on a DAY ahead", x.holds(1, d[k], DAYS), one[k]);
    }
    x.now(10);
    x.mend(1, 30);
    x.mend(3, 0);
    x.house(7);
    Due.is(7, "mended, and one TAKEN OUT", x.holds(0, DAYS, 10), 1000 + 1 - 30 - 300);
    Due.is(7, "the DAY before", x.holds(0, DAYS, 9), 4681);
    Due.is(7, "the other one", x.holds(1, DAYS, 10), 350);
    Due.is(7, "a HOUSE told later had its sum at first", x.holds(2, 0, 0), 7);
  }

  /** "below 0, too". */
  private static void holdsBelowNothing() {
    RowAuditor x = Tell.withHouses(1, MOST);
    Tell.pay(x, 0, 0, 0, 1, 0);
    Due.is(7, "nothing", x.holds(0, 0, 0), 0);
    Tell.pay(x, 0, 0, 0, 1, 0);
    Due.is(7, "one below", x.holds(0, 0, 0), -1);
    for (int k = 2; k < 150; k++) {
      Tell.move(x, 0, 1, 0, MOST);
    }
    Due.is(7, "far below", x.holds(0, 0, 0), -148000001);
    Due.is(7, "far above", x.holds(1, 0, 0), 149000000);
  }

  // ---- "RULES 0 to 19, in FORCE from a DAY to a DAY (both too)" ----

  private static void inForce() {
    RowAuditor x = Tell.withHousesOn(DAYS, 0);
    int[] days = {0, 1, 4, 5, 6, 7, 8, DAYS - 1, DAYS};
    for (int day : days) {
      Tell.guess(x, 0, day, 1, 0);
    }
    int[][] forces = {{5, 7}, {0, 0}, {0, 1}, {DAYS, DAYS}, {DAYS - 1, DAYS}, {6, 6}, {0, DAYS}};
    for (int r = 0; r < forces.length; r++) {
      Due.rule(x, forces[r][0], forces[r][1], "r(1=1)");
      for (int i = 0; i < days.length; i++) {
        int by = -2;
        for (int k = 0; k <= r; k++) {
          by = days[i] >= forces[k][0] && days[i] <= forces[k][1] ? k : by;
        }
        Due.is(10, "of DAY " + days[i] + " by RULES to " + r, x.broken(i, DAYS), by);
      }
    }
    // By the ROW's own DAY, not by that on which it was told or that on which it is asked.
    RowAuditor y = Tell.withHousesOn(9, 0);
    Tell.guess(y, 0, 3, 1, 0);
    Due.rule(y, 3, 3, "r(1=1)");
    Due.is(10, "its own DAY", y.broken(0, 9), 0);
    Due.rule(y, 4, DAYS, "r(1=1)");
    Due.is(10, "its own DAY", y.broken(0, 9), 0);
    Due.is(10, "on a DAY ahead", y.broken(0, DAYS), 0);
    // A RULE has no DAY on which it was told: it holds for all ROWS, as KNOWN on any DAY.
    y.now(20);
    Due.rule(y, 0, DAYS, "r(1=1)");
    Due.is(10, "told later", y.broken(0, 9), 2);
  }

  // ---- "l(C) it is let where C holds (not BROKEN then, by no r of this RULE or a lower one)" ----

  private static void letByRules() {
    String[][] rules = {
      {"r(1=1);l(1=1)"}, {"l(1=1);r(1=1)"}, {"r(1=1);l(1=2)"}, {"r(1=1)", "l(1=1)"}, {"l(1=1)", "r(1=1)"},
      {"r(1=1)", "l(1=1)", "r(1=2)"}, {"r(1=1)", "r(1=1)", "l(1=1)"}, {"r(1=1)", "l(1=2)", "r(1=2)"},
      {"r(1=1)", "l(1=1);r(1=1)", "r(1=1)"}, {"l(1=1)"}, {"r(1=2)"}, {"r(1=1);r(1=2)"}, {"r(1=2);r(1=1)"},
      {"r(1=1)", "r(1=2);r(1=1);l(1=2);l(1=1)"}, {"r(1=1)", "l(1=2);r(1=2)", "l(1=2)"},
    };
    int[] due = {-2, -2, 0, -2, 1, -2, -2, 0, 2, -2, -2, 0, 0, -2, 0};
    for (int k = 0; k < rules.length; k++) {
      RowAuditor x = Tell.withHouses(0);
      Tell.guess(x, 0, 0, 1, 0);
      for (String rule : rules[k]) {
        Due.rule(x, rule);
      }
      Due.is(10, String.join(" ", rules[k]), x.broken(0, 0), due[k]);
      Due.is(12, String.join(" ", rules[k]), x.findings(0), due[k] < 0 ? 0 : 1);
    }
    // An l out of FORCE lets nothing.
    RowAuditor x = Tell.withHousesOn(5, 0);
    Tell.guess(x, 0, 4, 1, 0);
    Due.rule(x, "r(1=1)");
    Due.rule(x, 5, DAYS, "l(1=1)");
    Due.rule(x, 0, 3, "l(1=1)");
    Due.is(10, "out of FORCE", x.broken(0, 5), 0);
    Due.rule(x, 4, 4, "l(1=1)");
    Due.is(10, "in FORCE", x.broken(0, 5), -2);
  }

  // ---- "xI.J strikes CLAUSE J (0 to 9) of RULE I (0 to 19)" ----

  private static void striking() {
    String[][] rules = {
      // Of a lower RULE: its first, its last, one that it has not.
      {"r(1=1)", "x0.0"}, {"r(1=2);r(1=1)", "x0.1"}, {"r(1=1)", "x0.1"}, {"r(1=1)", "x0.9"},
      {"x0.0;x0.0;x0.0;x0.0;x0.0;x0.0;x0.0;x0.0;x0.0;r(1=1)", "x0.9"},
      {"r(1=1);r(1=1)", "x0.0"}, {"r(1=1);r(1=1)", "x0.0;x0.1"}, {"r(1=1);l(1=1)", "x0.1"},
      // Of its own RULE and of a higher one: nothing.
      {"x0.1;r(1=1)"}, {"r(1=1);x0.0"}, {"x1.0", "r(1=1)"}, {"r(1=1);x19.0"}, {"x0.0", "x0.1;r(1=1);x1.1"},
      // What is STRUCK strikes nothing, if that comes from a higher one; an x that an x of its own names counts.
      {"r(1=1)", "x0.0", "x1.0"}, {"r(1=1)", "x0.0", "x1.0", "x2.0"}, {"r(1=1)", "x1.1;x0.0"},
      {"r(1=1)", "x0.0", "x1.0", "x2.0", "x3.0"}, {"r(1=1)", "x0.0;x0.0", "x1.0"}, {"r(1=1)", "x0.0;x0.0", "x1.0;x1.1"},
      // What is STRUCK once is no more STRUCK twice.
      {"r(1=1)", "x0.0", "x0.0"}, {"r(1=1)", "x0.0", "x0.0", "x2.0"},
      // An l that is STRUCK lets nothing, and an r of a lower RULE is BROKEN.
      {"r(1=1)", "l(1=1)", "x1.0"}, {"r(1=1)", "l(1=1)", "x1.0", "x2.0"},
      // An x that was passed: strikes in a RULE between and in the lowest.
      {"r(1=1)", "r(1=1)", "r(1=1)", "x2.0;x0.0"}, {"r(1=1)", "r(1=1)", "r(1=1)", "x2.0;x1.0;x0.0"},
    };
    int[] due = {-2, -2, 0, 0, -2, 0, -2, 0, 0, 0, 1, 0, 1, 0, -2, -2, 0, -2, 0, -2, -2, 0, -2, 1, -2};
    for (int k = 0; k < rules.length; k++) {
      RowAuditor x = Tell.withHouses(0);
      Tell.guess(x, 0, 0, 1, 0);
      for (int r = 0; r < rules[k].length; r++) {
        Due.is(9, rules[k][r], Due.rule(x, rules[k][r]), r);
      }
      Due.is(10, String.join(" ", rules[k]), x.broken(0, 0), due[k]);
    }
    strikingInForce();
  }

  /** "if that is of a lower RULE in FORCE then": both must be in FORCE on the ROW's DAY. */
  private static void strikingInForce() {
    RowAuditor x = Tell.withHousesOn(9, 0);
    for (int day = 0; day < 9; day++) {
      Tell.guess(x, 0, day, 1, 0);
    }
    Due.rule(x, 0, DAYS, "r(1=1)");
    Due.rule(x, 2, 6, "x0.0");
    Due.rule(x, 4, 5, "x1.0");
    int[] due = {0, 0, -2, -2, 0, 0, -2, 0, 0};
    for (int day = 0; day < 9; day++) {
      Due.is(10, "of DAY " + day, x.broken(day, 9), due[day]);
    }
    // From the highest RULE to the lowest.
    RowAuditor y = Tell.withHouses(0);
    Tell.guess(y, 0, 0, 1, 0);
    Due.rule(y, "r(1=1)");
    for (int r = 1; r < 19; r++) {
      Due.rule(y, 1, 1, "r(1=1)");
    }
    Due.is(10, "the lowest", y.broken(0, 0), 0);
    Due.rule(y, "x0.0");
    Due.is(10, "struck by the highest", y.broken(0, 0), -2);
  }

  /** "BY is the highest such RULE." */
  private static void highestRule() {
    RowAuditor x = Tell.withHouses(0);
    for (int i = 0; i < 20; i++) {
      x.row(3, 0, NONE, 0, i, 1 + i, 0, NONE, NONE);
    }
    for (int r = 0; r < 20; r++) {
      Due.rule(x, "r(h>" + r + "|h=" + r + ")");
    }
    for (int i = 0; i < 20; i++) {
      Due.is(10, "ROW " + i, x.broken(i, 0), i);
    }
    RowAuditor y = Tell.withHouses(0);
    for (int i = 0; i < 20; i++) {
      x.row(3, 0, NONE, 0, i, 1 + i, 0, NONE, NONE);
      y.row(3, 0, NONE, 0, i, 1 + i, 0, NONE, NONE);
    }
    for (int r = 0; r < 20; r++) {
      Due.rule(y, "r(h<" + (r + 1) + ");l(h=" + (19 - r) + ")");
    }
    for (int i = 0; i < 20; i++) {
      // Let by RULE 19 - i and all below; BROKEN by RULES from i on.
      Due.is(10, "ROW " + i, y.broken(i, 0), i == 0 ? -2 : 19);
    }
  }

  // ---- "CLEARED is a ROW by a HAND at NOW (once): it is no FINDING from then on." ----

  private static void clearedFromThenOn() {
    RowAuditor x = Tell.withHousesOn(3, 0);
    for (int i = 0; i < 3; i++) {
      Tell.guess(x, 0, i, 1, i);
    }
    Due.rule(x, "r(w<2)");
    x.now(5);
    Due.is(11, "CLEARED", x.clear(0, 7), true);
    Due.is(11, "not twice", x.clear(0, 7), false);
    x.now(6);
    Due.is(11, "nor later by another", x.clear(0, 8), false);
    Due.is(35, "on the first of these DAYS", x.look(0, 10), 5);
    int[] t = {2, 3, 4, 5, 6, DAYS};
    int[] due = {0, 2, 2, 1, 1, 1};
    for (int k = 0; k < t.length; k++) {
      Due.is(12, "FINDINGS on " + t[k], x.findings(t[k]), due[k]);
      Due.is(13, "the first on " + t[k], x.finding(t[k], 0), due[k] == 0 ? NONE : 2 - due[k]);
    }
    Due.is(10, "it is BROKEN still", x.broken(0, 6), 0);
    // What is not BROKEN can be CLEARED; it is no FINDING when it is BROKEN later.
    Due.is(11, "not BROKEN", x.clear(2, 2), true);
    Due.rule(x, "r(1=1)");
    Due.is(12, "before", x.findings(5), 2);
    Due.is(12, "from then on", x.findings(6), 1);
    Due.is(13, "the other one", x.finding(6, 0), 1);
    // By the HAND who wrote it, on the DAY on which it was told, and on the last DAY.
    Tell.guess(x, 0, 6, 1, 15);
    Due.is(11, "told NOW", x.clear(3, 15), true);
    Due.is(12, "never a FINDING", x.findings(6), 1);
    x.now(DAYS);
    Due.is(11, "on the last DAY", x.clear(1, 0), true);
    Due.is(12, "the DAY before", x.findings(DAYS - 1), 1);
    Due.is(12, "on the last DAY", x.findings(DAYS), 0);
  }

  // ---- "FINDINGS as KNOWN on t: ROWS that are BROKEN as KNOWN on t, and were not CLEARED by t." ----

  private static void findingsOnADay() {
    RowAuditor x = Tell.withHousesOn(2, 0);
    Tell.guess(x, 0, 1, 50, 0);
    Tell.guess(x, 0, 0, 150, 0);
    Due.rule(x, "r(s>100)");
    x.now(4);
    x.mend(0, 101);
    x.mend(1, 100);
    x.now(6);
    x.mend(1, 200);
    x.now(8);
    x.mend(0, 0);
    int[] t = {0, 1, 2, 3, 4, 5, 6, 7, 8, DAYS};
    int[][] due = {{}, {}, {1}, {1}, {0}, {0}, {1, 0}, {1, 0}, {1}, {1}};
    for (int k = 0; k < t.length; k++) {
      // From one DAY to another, with no other call between.
      int other = (k + 5) % t.length;
      Due.is(13, "the first on " + t[k], x.finding(t[k], 0), due[k].length > 0 ? due[k][0] : NONE);
      Due.is(13, "the first on " + t[other], x.finding(t[other], 0), due[other].length > 0 ? due[other][0] : NONE);
    }
    for (int k = 0; k < t.length; k++) {
      Due.is(12, "FINDINGS on " + t[k], x.findings(t[k]), due[k].length);
      for (int j = 0; j < 3; j++) {
        Due.is(13, "finding " + j + " on " + t[k], x.finding(t[k], j), j < due[k].length ? due[k][j] : NONE);
      }
      Due.is(13, "no such k", x.finding(t[k], -1), NONE);
      Due.is(13, "no such k", x.finding(t[k], Integer.MIN_VALUE), NONE);
      Due.is(13, "no such k", x.finding(t[k], Integer.MAX_VALUE), NONE);
    }
  }

  // ---- the letters n and t, "KNOWN", "with that HAND", "of that KIND with that PAYEE", "on that DAY" ----

  private static void countedOnADay() {
    crowds(3, new int[] {6, 6, 1, 6, 6, 1, 6, 6, NONE}, new int[] {350, 350, 40, 80, 160, 350, 0, 0, NONE});
    int[] n = {6, NONE, 1, 6, 6, 1, 6, 6, 6};
    int[] t = {2890, NONE, 40, 81, 160, 2890, 0, 0, 2890};
    crowds(4, n, t);
    crowds(DAYS, n, t);
  }

  private static RowAuditor crowded() {
    RowAuditor x = Tell.withHousesOn(3, 0, 0);
    x.row(1, 0, 7, 3, 0, 10, 2, NONE, NONE);
    x.row(1, 1, 7, 3, 23, 20, 2, NONE, NONE);
    x.row(1, 0, 7, 2, 23, 40, 2, NONE, NONE);
    x.row(0, 0, 7, 3, 5, 80, 2, NONE, NONE);
    x.row(1, 0, 8, 3, 5, 160, 2, NONE, NONE);
    x.row(1, 0, 7, 3, 5, 320, 3, NONE, NONE);
    x.row(2, 0, 1, 3, 5, 640, 2, NONE, NONE);
    x.row(3, 0, NONE, 3, 5, 1280, 2, NONE, NONE);
    // Told later, of that DAY: counted from then on; TAKEN OUT: no more.
    x.now(4);
    x.row(1, 0, 7, 3, 0, 2560, 2, NONE, NONE);
    x.mend(1, 0);
    x.mend(3, 81);
    return x;
  }

  private static void crowds(int day, int[] n, int[] t) {
    for (int i = 0; i < n.length; i++) {
      RowAuditor x = crowded();
      String rule = "r(n=" + n[i] + "&t=" + t[i] + ")";
      if (n[i] != NONE) {
        Due.rule(x, rule);
      }
      Due.is(10, "ROW " + i + " as KNOWN on " + day + ": " + rule, x.broken(i, day), n[i] == NONE ? NONE : 0);
    }
  }
}
