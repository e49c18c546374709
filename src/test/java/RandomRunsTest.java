import java.util.Random;

/** Long runs of calls, drawn by fixed seeds, answered by the class and by the Oracle: both must agree. */
public final class RandomRunsTest {
  private static final int RUNS = 1500;
  private static int wrong = 0;
  private static int unsure = 0;
  private static long calls = 0;

  private final Random dice;
  private final int seed;
  private final RowAuditor x = new RowAuditor();
  private final Oracle o = new Oracle();
  private final int houses;
  private final int mostSum;
  private final int mostRows;
  private final int days;
  private final int kinds;
  private final StringBuilder log = new StringBuilder();
  private boolean isWrong = false;

  private RandomRunsTest(int seed) {
    this.seed = seed;
    dice = new Random(seed);
    houses = 2 + dice.nextInt(3) + (dice.nextInt(4) == 0 ? 6 : 0);
    int[] sums = {4, 12, 60, 1000, 1000000};
    mostSum = sums[dice.nextInt(sums.length)];
    int[] rows = {8, 15, 30, 60, 150};
    mostRows = rows[dice.nextInt(rows.length)];
    days = 1 + dice.nextInt(dice.nextBoolean() ? 4 : 30);
    kinds = dice.nextInt(3);
  }

  private void same(String call, long got, long due) {
    calls++;
    log.append(call).append(" -> ").append(got).append('\n');
    if (due == Oracle.UNSURE) {
      unsure++;
    } else if (got != due && !isWrong) {
      isWrong = true;
      wrong++;
      System.out.println("seed " + seed + ": " + call + " answered " + got + ", due is " + due);
      if (wrong == 1) {
        System.out.println(log);
      }
    }
  }

  private static long bit(boolean b) {
    return b ? 1 : 0;
  }

  /** Mostly within the bounds, seldom at or beyond them. */
  private int near(int least, int most) {
    if (dice.nextInt(40) == 0) {
      int[] edges = {least - 1, most + 1, least, most, Integer.MIN_VALUE, Integer.MAX_VALUE, -1, 0};
      return edges[dice.nextInt(edges.length)];
    }
    return most < least ? least : least + dice.nextInt(most - least + 1);
  }

  private int aSum() {
    return 1 + dice.nextInt(mostSum);
  }

  // ---- texts ----

  private String condition(int depth) {
    StringBuilder b = new StringBuilder(part(depth));
    while (dice.nextInt(4) == 0) {
      b.append('|').append(part(depth));
    }
    return b.toString();
  }

  private String part(int depth) {
    StringBuilder b = new StringBuilder(piece(depth));
    while (dice.nextInt(4) == 0) {
      b.append('&').append(piece(depth));
    }
    return b.toString();
  }

  private String piece(int depth) {
    int d = dice.nextInt(8);
    if (d == 0 && depth < 8) {
      return "!" + piece(depth + 1);
    }
    if (d == 1 && depth < 8) {
      return "(" + condition(depth + 1) + ")";
    }
    if (d < 5) {
      return simple();
    }
    return expression(depth) + "<>=".charAt(dice.nextInt(3)) + expression(depth);
  }

  /** What is neither always nor never so. */
  private String simple() {
    switch (dice.nextInt(12)) {
      case 0: return "k=" + dice.nextInt(4);
      case 1: return "s>" + dice.nextInt(mostSum);
      case 2: return "w<" + dice.nextInt(4);
      case 3: return "v=" + dice.nextInt(3);
      case 4: return "0>v";
      case 5: return "p<" + dice.nextInt(4);
      case 6: return "o=" + dice.nextInt(houses);
      case 7: return "e>" + dice.nextInt(houses);
      case 8: return "n>" + dice.nextInt(4);
      case 9: return "t>" + dice.nextInt(mostSum);
      case 10: return "s/v>1";
      default: return "h%3=" + dice.nextInt(3);
    }
  }

  private String expression(int depth) {
    StringBuilder b = new StringBuilder(term(depth));
    while (dice.nextInt(4) == 0) {
      b.append("+-".charAt(dice.nextInt(2))).append(term(depth));
    }
    return b.toString();
  }

  private String term(int depth) {
    StringBuilder b = new StringBuilder(factor(depth));
    while (dice.nextInt(4) == 0) {
      b.append("*/%".charAt(dice.nextInt(3))).append(factor(depth));
    }
    return b.toString();
  }

  private String factor(int depth) {
    int d = dice.nextInt(8);
    if (d == 0 && depth < 8) {
      return "[" + expression(depth + 1) + "]";
    }
    if (d < 3) {
      return dice.nextInt(30) == 0 ? "" + (999990 + dice.nextInt(99999999)) : "" + dice.nextInt(10);
    }
    return "" + "ksdhwvoepqant".charAt(dice.nextInt(13));
  }

  private String ruleText() {
    StringBuilder b = new StringBuilder();
    int size = dice.nextInt(12) == 0 ? 8 + dice.nextInt(5) : 1 + dice.nextInt(3);
    for (int k = 0; k < size; k++) {
      b.append(k == 0 ? "" : ";");
      int d = dice.nextInt(6);
      if (d == 0 || size > 6) {
        b.append('x').append(dice.nextInt(dice.nextInt(9) == 0 ? 24 : 6)).append('.');
        b.append(dice.nextInt(dice.nextInt(9) == 0 ? 12 : 3));
      } else {
        b.append(d < 3 ? "l(" : "r(").append(condition(1)).append(')');
      }
    }
    return spoilt(b);
  }

  private String chainText() {
    StringBuilder b = new StringBuilder();
    int size = 1 + dice.nextInt(dice.nextInt(9) == 0 ? 6 : 4);
    for (int k = 0; k < size; k++) {
      b.append(k == 0 ? "(" : ";(").append(dice.nextInt(3) == 0 ? condition(1) : simple()).append(')');
      for (char c : "pwo".toCharArray()) {
        if (dice.nextInt(5) == 0 && (k > 0 || dice.nextInt(20) == 0)) {
          b.append(c);
        }
      }
      if (dice.nextInt(40) == 0) {
        b.append("pwo".charAt(dice.nextInt(3)));
      }
    }
    return spoilt(b);
  }

  private String spoilt(StringBuilder b) {
    if (dice.nextInt(4) == 0) {
      int times = 1 + dice.nextInt(2);
      for (int k = 0; k < times && b.length() > 0; k++) {
        String signs = "rlx.;()[]!&|<>=+-*/%0123456789ksdhwvoepqant zA" + (char) 200 + (char) 0;
        char sign = signs.charAt(dice.nextInt(signs.length()));
        int at = dice.nextInt(b.length());
        switch (dice.nextInt(4)) {
          case 0: b.setCharAt(at, sign); break;
          case 1: b.insert(at, sign); break;
          case 2: b.deleteCharAt(at); break;
          default: b.setLength(at); break;
        }
      }
    }
    return b.toString();
  }

  private void feed(String text) {
    for (int p = 0; p < text.length() && p < 180; p += 20) {
      int[] words = Due.words(text, p);
      same("feed(\"" + text.substring(p, Math.min(text.length(), p + 20)) + "\")",
          x.feed(words[0], words[1], words[2], words[3], words[4]), o.feed(words));
    }
  }

  private void tellRule() {
    String text = ruleText();
    int from = near(0, days);
    int to = dice.nextInt(3) == 0 ? near(Math.max(0, Math.min(from, days)), days) : near(3000, 3999);
    feed(text);
    int n = dice.nextInt(20) == 0 ? near(0, 161) : text.length();
    same("rule(" + from + "," + to + "," + n + ") " + text, x.rule(from, to, n), o.rule(from, to, n));
  }

  private void tellChain() {
    String text = chainText();
    feed(text);
    int n = dice.nextInt(20) == 0 ? near(0, 101) : text.length();
    same("chain(" + n + ") " + text, x.chain(n), o.chain(n));
  }

  private void tellRow() {
    int kind = kinds == 0 ? 2 : kinds == 1 ? dice.nextInt(3) : near(0, 3);
    int size = o.count(1);
    int house = near(0, size - 1);
    int other = kind == 2 ? near(0, size - 1) : kind == 3 ? -1 : near(0, 4);
    int[] a = {kind, house, other, near(Math.max(0, o.now - 3), o.now), near(0, 23), dice.nextInt(50) == 0
        ? near(1, 1000000) : aSum(), near(0, 4), dice.nextBoolean() ? -1 : near(-1, 3), near(-1, 9)};
    if (o.count(2) >= mostRows && dice.nextInt(20) > 0) {
      return;
    }
    same("row" + java.util.Arrays.toString(a), x.row(a[0], a[1], a[2], a[3], a[4], a[5], a[6], a[7], a[8]), o.row(a));
  }

  private int aRow() {
    return near(0, o.count(2) - 1);
  }

  private void parted() {
    int n = dice.nextInt(30) == 0 ? near(0, 13) : 1 + dice.nextInt(12);
    StringBuilder b = new StringBuilder();
    int all = 0;
    int size = Math.max(1, o.count(2));
    int start = dice.nextInt(size);
    for (int k = 0; k < 20; k++) {
      int i = dice.nextInt(40) == 0 ? dice.nextInt(256) : (start + k * 7) % size;
      b.append((char) i);
      int part = k < n && dice.nextInt(3) > 0 ? o.sum(i, o.now) : 0;
      all += part;
    }
    int sum = dice.nextInt(10) == 0 ? near(0, 12000000) : all;
    feed(b.toString());
    same("parted(" + sum + "," + n + ")", x.parted(sum, n), o.parted(sum, n));
  }

  private void tell() {
    switch (dice.nextInt(12)) {
      case 0: {
        int day = dice.nextInt(4) > 0 ? o.now : near(o.now, Math.min(3999, o.now + 2));
        if (day <= o.now + 5 || dice.nextInt(30) == 0) {
          same("now(" + day + ")", bit(x.now(day)), bit(o.now(day)));
        }
        break;
      }
      case 1: {
        if (o.count(1) < houses || dice.nextInt(60) == 0) {
          int sum = dice.nextInt(30) == 0 ? near(0, 1000000) : dice.nextInt(mostSum + 1);
          same("house(" + sum + ")", x.house(sum), o.house(sum));
        }
        break;
      }
      case 2: {
        int i = aRow();
        int sum = dice.nextInt(5) == 0 ? 0 : dice.nextInt(30) == 0 ? near(0, 1000000) : aSum();
        same("mend(" + i + "," + sum + ")", bit(x.mend(i, sum)), bit(o.mend(i, sum)));
        break;
      }
      case 3: {
        int i = aRow();
        int hand = near(0, 15);
        if (dice.nextInt(3) == 0) {
          same("clear(" + i + "," + hand + ")", bit(x.clear(i, hand)), bit(o.clear(i, hand)));
        } else {
          same("putIn(" + i + ")", bit(x.putIn(i)), bit(o.putIn(i)));
        }
        break;
      }
      case 4: tellRule(); break;
      case 5: tellChain(); break;
      case 6: tellThings(); break;
      case 7: tellAsking(); break;
      default: tellRow();
    }
  }

  private void tellThings() {
    boolean payee = dice.nextBoolean();
    int k = near(0, payee ? 19 : 15);
    k = dice.nextBoolean() ? Math.min(k, 5) : k;
    int set = dice.nextInt(30) == 0 ? near(0, (1 << 30) - 1) : 1 << dice.nextInt(30) | 1 << dice.nextInt(30);
    set = dice.nextInt(10) == 0 ? 0 : set;
    same("things(" + k + "," + payee + "," + set + ")", bit(x.things(k, payee, set)), bit(o.things(k, payee, set)));
    int hours = near(1, 1000);
    int worth = dice.nextInt(3) == 0 ? near(0, 100000) : dice.nextInt(4);
    hours = dice.nextInt(3) == 0 ? hours : 1 + dice.nextInt(4);
    int wants = near(-1, o.count(7) - 1);
    same("reading(" + hours + "," + worth + "," + wants + ")", x.reading(hours, worth, wants),
        o.reading(hours, worth, wants));
  }

  private void tellAsking() {
    int hand = near(0, 15);
    int i = aRow();
    int day = near(o.now, Math.min(3999, o.now + 3));
    same("ask(" + hand + "," + i + "," + day + ")", x.ask(hand, i, day), o.ask(hand, i, day));
    int k = near(0, o.count(6) - 1);
    int sum = dice.nextInt(3) == 0 ? near(0, 1000000) : Oracle.in(k, 0, o.askings.size() - 1)
        ? o.sum(o.askings.get(k).row, o.now) : 0;
    if (dice.nextBoolean()) {
      same("answer(" + k + "," + sum + ")", bit(x.answer(k, sum)), bit(o.answer(k, sum)));
    }
  }

  private int aDay() {
    return dice.nextInt(3) > 0 ? o.now : near(0, o.now + 1);
  }

  private void ask() {
    int t = aDay();
    int i = aRow();
    switch (dice.nextInt(23)) {
      case 0: {
        int what = near(0, 1);
        same("known(" + i + "," + t + "," + what + ")", x.known(i, t, what), o.known(i, t, what));
        break;
      }
      case 1: {
        int house = near(0, o.count(1) - 1);
        int d = near(0, o.now + 1);
        same("holds(" + house + "," + d + "," + t + ")", x.holds(house, d, t), o.holds(house, d, t));
        break;
      }
      case 2:
      case 3:
        same("broken(" + i + "," + t + ")", x.broken(i, t), o.broken(i, t));
        break;
      case 4: same("findings(" + t + ")", x.findings(t), o.findings(t)); break;
      case 5: {
        int k = near(0, 5);
        same("finding(" + t + "," + k + ")", x.finding(t, k), o.finding(t, k));
        break;
      }
      case 6: parted(); break;
      case 7:
      case 8: {
        int a = near(0, o.count(1) - 1);
        int b = near(0, o.count(1) - 1);
        boolean most = dice.nextBoolean();
        same("followed(" + a + "," + b + "," + most + ")", x.followed(a, b, most), o.followed(a, b, most));
        break;
      }
      case 9: {
        int within = near(0, dice.nextBoolean() ? 3 : 3999);
        int hundredths = near(0, 100);
        same("rounds(" + within + "," + hundredths + ")", x.rounds(within, hundredths), o.rounds(within, hundredths));
        break;
      }
      case 10:
      case 11: askFits(); break;
      case 12:
      case 13: askOdd(); break;
      case 14: {
        boolean pa = dice.nextBoolean();
        boolean pb = dice.nextBoolean();
        int a = near(0, pa ? 19 : 15);
        int b = near(0, pb ? 19 : 15);
        same("behind(" + a + "," + pa + "," + b + "," + pb + ")", x.behind(a, pa, b, pb), o.behind(a, pa, b, pb));
        break;
      }
      case 15: {
        int k = near(0, 15);
        same("grown(" + k + ")", x.grown(k), o.grown(k));
        break;
      }
      case 16: {
        int n = near(1, dice.nextBoolean() ? 5 : 50);
        int seedX = near(0, 65535);
        int what = dice.nextBoolean() ? near(0, 2) : near(0, 20);
        same("sample(" + n + "," + seedX + "," + what + ")", x.sample(n, seedX, what), o.sample(n, seedX, what));
        break;
      }
      case 17: {
        int k = near(0, o.count(6) - 1);
        same("asked(" + k + ")", x.asked(k), o.asked(k));
        break;
      }
      case 18: {
        int hand = near(0, 3);
        same("ifFalse(" + hand + ")", x.ifFalse(hand), o.ifFalse(hand));
        break;
      }
      case 19: {
        int what = near(0, 1);
        same("found(" + what + ")", x.found(what), o.found(what));
        break;
      }
      case 20: {
        int hours = near(0, dice.nextBoolean() ? 12 : 3000);
        same("best(" + hours + ")", x.best(hours), o.best(hours));
        int set = near(0, 1 << Math.max(0, o.count(7)));
        same("judge(" + set + ")", x.judge(set), o.judge(set));
        break;
      }
      case 21: {
        int what = near(0, 10);
        same("look(" + i + "," + what + ")", x.look(i, what), o.look(i, what));
        break;
      }
      default: {
        int what = near(0, 46);
        same("count(" + what + ")", x.count(what), o.count(what));
      }
    }
  }

  private void askFits() {
    int c = near(0, o.count(5) - 1);
    int within = near(0, dice.nextBoolean() ? 3 : 3999);
    int sum = dice.nextInt(30) == 0 ? near(0, 4000000) : dice.nextInt(mostSum * 3);
    same("fits(" + c + "," + within + "," + sum + ")", x.fits(c, within, sum), o.fits(c, within, sum));
    int i = near(0, 3);
    same("fitted(" + c + "," + within + "," + sum + "," + i + ")", x.fitted(c, within, sum, i),
        o.fitted(c, within, sum, i));
  }

  private void askOdd() {
    int hand = near(0, 4);
    int kind = near(0, 3);
    int r = near(0, o.count(3) - 1);
    int what = near(0, 5);
    same("ways(" + hand + "," + kind + "," + r + "," + what + ")", x.ways(hand, kind, r, what),
        o.ways(hand, kind, r, what));
    int share = near(0, 1000);
    same("odd(" + hand + "," + kind + "," + r + "," + share + ")", x.odd(hand, kind, r, share),
        o.odd(hand, kind, r, share));
  }

  private void run() {
    for (int k = 0; k < houses && k < 3; k++) {
      int sum = dice.nextInt(mostSum + 1);
      same("house(" + sum + ")", x.house(sum), o.house(sum));
    }
    int before = dice.nextInt(120);
    for (int k = 0; k < 260 && !isWrong; k++) {
      if (k < before || dice.nextInt(3) == 0) {
        tell();
      } else {
        ask();
      }
    }
  }

  public static void main(String[] args) {
    int first = args.length > 0 ? Integer.parseInt(args[0]) : 1;
    int runs = args.length > 1 ? Integer.parseInt(args[1]) : RUNS;
    for (int seed = first; seed < first + runs; seed++) {
      new RandomRunsTest(seed).run();
    }
    System.out.println(calls + " calls, " + unsure + " too long for the oracle, " + wrong + " runs wrong");
    if (wrong != 0) {
      System.exit(1);
    }
  }
}
