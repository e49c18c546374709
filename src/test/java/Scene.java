import java.util.ArrayList;
import java.util.List;

/**
 * An object of which something of everything has been told, and all that it answers then. Its calls are counted, for an
 * object is used for 512 of them at most.
 */
final class Scene {
  static final int NONE = -1;
  static final int NO_SUM = -1000000000;
  static final int NOW = 10;
  static final int HOUSES = 3;
  static final int ROWS = 14;
  static final int MENDINGS = 3;
  static final int RULES = 3;
  static final int CHAINS = 2;
  static final int ASKINGS = 4;
  static final int READINGS = 3;
  static final int FINDINGS = 3;
  /** The ROW that was TAKEN OUT, and the one that was CLEARED. */
  static final int OUT = 6;
  static final int CLEARED = 1;
  private static final int MOST_CALLS = 512;

  final RowAuditor x = new RowAuditor();
  private int calls;

  /** A call by the number of its promise (a new object has none); a boolean is 1 or 0. */
  long call(int promise, int... a) {
    calls++;
    if (calls > MOST_CALLS) {
      throw new IllegalStateException("more than " + MOST_CALLS + " calls");
    }
    switch (promise) {
      case 2: return bit(x.now(a[0]));
      case 3: return x.house(a[0]);
      case 4: return x.row(a[0], a[1], a[2], a[3], a[4], a[5], a[6], a[7], a[8]);
      case 5: return bit(x.mend(a[0], a[1]));
      case 6: return x.known(a[0], a[1], a[2]);
      case 7: return x.holds(a[0], a[1], a[2]);
      case 8: return x.feed(a[0], a[1], a[2], a[3], a[4]);
      case 9: return x.rule(a[0], a[1], a[2]);
      case 10: return x.broken(a[0], a[1]);
      case 11: return bit(x.clear(a[0], a[1]));
      case 12: return x.findings(a[0]);
      case 13: return x.finding(a[0], a[1]);
      case 14: return x.parted(a[0], a[1]);
      case 15: return x.followed(a[0], a[1], a[2] != 0);
      case 16: return x.rounds(a[0], a[1]);
      case 17: return x.chain(a[0]);
      case 18: return x.fits(a[0], a[1], a[2]);
      case 19: return x.fitted(a[0], a[1], a[2], a[3]);
      case 20: return x.ways(a[0], a[1], a[2], a[3]);
      default: return laterCall(promise, a);
    }
  }

  private long laterCall(int promise, int... a) {
    switch (promise) {
      case 21: return x.odd(a[0], a[1], a[2], a[3]);
      case 22: return bit(x.things(a[0], a[1] != 0, a[2]));
      case 23: return x.behind(a[0], a[1] != 0, a[2], a[3] != 0);
      case 24: return x.grown(a[0]);
      case 25: return x.sample(a[0], a[1], a[2]);
      case 26: return x.ask(a[0], a[1], a[2]);
      case 27: return bit(x.answer(a[0], a[1]));
      case 28: return x.asked(a[0]);
      case 29: return x.ifFalse(a[0]);
      case 30: return bit(x.putIn(a[0]));
      case 31: return x.found(a[0]);
      case 32: return x.reading(a[0], a[1], a[2]);
      case 33: return x.best(a[0]);
      case 34: return x.judge(a[0]);
      case 35: return x.look(a[0], a[1]);
      case 36: return x.count(a[0]);
      default: throw new IllegalArgumentException("no call of promise " + promise);
    }
  }

  private static long bit(boolean b) {
    return b ? 1 : 0;
  }

  /** Feeds a text, filled up with zero bytes to the next twenty. */
  void feed(String text) {
    for (int p = 0; p < text.length(); p += 20) {
      call(8, Due.words(text, p));
    }
  }

  long rule(int from, int to, String text) {
    feed(text);
    return call(9, from, to, text.length());
  }

  long chain(String text) {
    feed(text);
    return call(17, text.length());
  }

  /** Something of everything, with a text on the tape. */
  static Scene told(String tape) {
    Scene s = new Scene();
    s.call(3, 1000);
    s.call(3, 0);
    s.call(3, 500);
    s.call(4, 0, 0, 0, 0, 9, 300, 0, NONE, NONE);
    s.call(4, 1, 0, 1, 0, 10, 200, 1, 2, 5);
    s.call(4, 2, 0, 1, 0, 10, 100, 2, 3, 99);
    s.call(2, 5);
    s.call(4, 2, 1, 2, 4, 23, 105, 3, NONE, 0);
    s.call(4, 2, 2, 0, 5, 0, 95, 2, 1, NONE);
    s.call(4, 3, 1, NONE, 5, 0, 7, 3, 0, NONE);
    s.call(4, 1, 2, 4, 5, 1, 900, 1, NONE, NONE);
    s.call(4, 1, 0, 1, 3, 8, 250, 1, NONE, 7);
    s.call(5, 1, 220);
    s.rule(0, 3999, "r(s>150)");
    s.rule(5, 5, "l(w=2);x0.0;r(n>2)");
    s.rule(0, 3999, "r(v<0&k=1)");
    s.chain("(k=1);(k=1)p");
    s.chain("(s>0)");
    s.call(2, NOW);
    s.call(4, 1, 1, 1, 10, 12, 40, 0, 15, NONE);
    s.call(4, 0, 2, 4, 10, 11, 60, 1, NONE, NONE);
    s.call(4, 2, 0, 2, 6, 0, 101, 2, NONE, NONE);
    s.call(4, 2, 2, 1, 6, 1, 99, 2, NONE, NONE);
    s.call(4, 2, 1, 0, 7, 0, 100, 2, 4, 50);
    s.call(4, 3, 0, NONE, 10, 23, 700, 15, NONE, NONE);
    s.call(5, OUT, 0);
    s.call(5, 7, 251);
    s.call(22, 1, 0, 3);
    s.call(22, 1, 1, 6);
    s.call(22, 4, 1, 4);
    s.call(22, 2, 0, 8);
    s.call(11, CLEARED, 5);
    s.call(30, 1);
    s.call(30, 7);
    s.call(26, 3, 1, 12);
    s.call(26, 4, 2, 11);
    s.call(26, 0, 3, 3999);
    s.call(26, 0, OUT, 11);
    s.call(27, 1, 100);
    s.call(32, 10, 5, NONE);
    s.call(32, 20, 9, 0);
    s.call(32, 15, 9, NONE);
    s.feed(tape);
    return s;
  }

  /** All that is answered now; the last calls tell what is on the tape, and what came of it. */
  List<Long> answers(int reader, int... readerArguments) {
    List<Long> list = new ArrayList<>();
    for (int what = 0; what <= 8; what++) {
      list.add(call(36, what));
    }
    int rows = x.count(2);
    for (int i = 0; i < rows; i++) {
      if (i < 8 || i >= rows - 2) {
        addRow(list, i);
      }
    }
    addSums(list);
    addTexts(list);
    addNames(list);
    addAskings(list);
    list.add(call(reader, readerArguments));
    for (int what : new int[] {3, 5, 8, 23, 42}) {
      list.add(call(36, what));
    }
    list.add(call(12, NOW));
    return list;
  }

  private void addRow(List<Long> list, int i) {
    for (int what = 0; what <= 10; what++) {
      list.add(call(35, i, what));
    }
    list.add(call(6, i, 5, 0));
    list.add(call(6, i, NOW, 0));
    list.add(call(6, i, NOW, 1));
    list.add(call(10, i, 5));
    list.add(call(10, i, NOW));
  }

  private void addSums(List<Long> list) {
    for (int a = 0; a < HOUSES; a++) {
      list.add(call(7, a, 3999, NOW));
      list.add(call(7, a, 4, 5));
      list.add(call(15, 0, a, 1));
      list.add(call(15, 2, a, 0));
    }
    list.add(call(16, 3999, 100));
    list.add(call(16, 3, 5));
    for (int n : new int[] {1, 30}) {
      for (int what : new int[] {0, 1, 2, 10}) {
        list.add(call(25, n, 7, what));
      }
    }
  }

  private void addTexts(List<Long> list) {
    for (int k = 0; k < RULES; k++) {
      list.add(call(36, 20 + k));
    }
    for (int k = 0; k < CHAINS; k++) {
      list.add(call(36, 40 + k));
    }
    list.add(call(12, 5));
    for (int k = 0; k <= FINDINGS; k++) {
      list.add(call(13, NOW, k));
    }
    for (int what = 0; what <= 5; what++) {
      list.add(call(20, 1, 1, 0, what));
    }
    list.add(call(21, 1, 1, 2, 300));
    list.add(call(18, 0, 3999, 0));
    list.add(call(18, 0, 5, 300));
    list.add(call(19, 0, 3999, 0, 1));
    list.add(call(18, 1, 0, 100));
  }

  private void addNames(List<Long> list) {
    for (int k = 0; k < 5; k++) {
      list.add(call(23, 1, 0, k, 1));
      list.add(call(23, 2, 0, k, 0));
    }
    list.add(call(24, 1));
    list.add(call(24, 2));
    for (int hand : new int[] {0, 2, 15}) {
      list.add(call(29, hand));
    }
    list.add(call(31, 0));
    list.add(call(31, 1));
  }

  private void addAskings(List<Long> list) {
    for (int k = 0; k <= ASKINGS; k++) {
      list.add(call(28, k));
    }
    for (int set = 0; set < 9; set++) {
      list.add(call(34, set));
    }
    for (int hours : new int[] {0, 15, 30, 44, 10000}) {
      list.add(call(33, hours));
    }
  }
}
