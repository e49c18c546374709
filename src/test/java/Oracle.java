import java.math.BigInteger;
import java.util.ArrayList;
import java.util.Arrays;
import java.util.HashSet;
import java.util.List;
import java.util.Set;

/**
 * The document again, in the plainest way and by other means than the class: texts are checked by a stack of
 * signs and reckoned as they are read, coins are followed as sets of all that may be, rows are tried one by one.
 */
final class Oracle {
  static final int NONE = -1;
  /** Says that the plain way would take too long here. */
  static final int UNSURE = Integer.MIN_VALUE;

  record Row(int number, int kind, int house, int other, int day, int hour, int sum, int hand, int leave,
      int paper, int told) {
    int payee() {
      return kind <= 1 ? other : -1;
    }
  }

  record Mending(int row, int sum, int day) { }

  record Rule(int from, int to, List<String> clauses) { }

  record Reading(int hours, int worth, int wants) { }

  static final class Asking {
    int row;
    int day;
    int answer = -1;
  }

  static final class Refused extends RuntimeException {
    private static final long serialVersionUID = 1L;
  }

  int now = 0;
  final List<Integer> houses = new ArrayList<>();
  final List<Row> rows = new ArrayList<>();
  final List<Mending> mendings = new ArrayList<>();
  final int[] cleared = new int[150];
  final List<Integer> put = new ArrayList<>();
  final List<Rule> rules = new ArrayList<>();
  final List<List<String>> chains = new ArrayList<>();
  final List<Asking> askings = new ArrayList<>();
  final List<Reading> readings = new ArrayList<>();
  final int[][] things = new int[2][20];
  String tape = "";
  private int unbelieved = -1;

  Oracle() {
    Arrays.fill(cleared, -1);
  }

  static boolean in(int v, int a, int b) {
    return a <= v && v <= b;
  }

  boolean now(int day) {
    if (day < now || day > 3999) {
      return false;
    }
    now = day;
    return true;
  }

  int house(int sum) {
    if (!in(sum, 0, 1000000) || houses.size() == 10) {
      return NONE;
    }
    houses.add(sum);
    return houses.size() - 1;
  }

  int row(int[] a) {
    int kind = a[0];
    if (rows.size() == 150 || !in(kind, 0, 3) || !in(a[1], 0, houses.size() - 1) || !in(a[3], 0, now)
        || !in(a[4], 0, 23) || !in(a[5], 1, 1000000) || !in(a[6], 0, 15) || !in(a[7], -1, 15) || a[7] == a[6]
        || !in(a[8], -1, 99)) {
      return NONE;
    }
    if (kind <= 1 && !in(a[2], 0, 19) || kind == 3 && a[2] != -1) {
      return NONE;
    }
    if (kind == 2 && (!in(a[2], 0, houses.size() - 1) || a[1] == a[2])) {
      return NONE;
    }
    rows.add(new Row(rows.size(), kind, a[1], a[2], a[3], a[4], a[5], a[6], a[7], a[8], now));
    return rows.size() - 1;
  }

  /** The SUM as KNOWN on t, 0 if not KNOWN. */
  int sum(int i, int t) {
    if (!in(i, 0, rows.size() - 1) || rows.get(i).told > t) {
      return 0;
    }
    int sum = rows.get(i).sum;
    for (Mending m : mendings) {
      if (m.row == i && m.day <= t) {
        sum = m.sum;
      }
    }
    return sum;
  }

  List<Row> ordered(int t) {
    List<Row> list = new ArrayList<>();
    for (Row r : rows) {
      if (sum(r.number, t) > 0) {
        list.add(r);
      }
    }
    list.sort((x, y) -> x.day != y.day ? x.day - y.day : x.hour != y.hour ? x.hour - y.hour : x.number - y.number);
    return list;
  }

  boolean mend(int i, int s) {
    if (!in(i, 0, rows.size() - 1) || !in(s, 0, 1000000) || mendings.size() == 100 || sum(i, now) == 0) {
      return false;
    }
    mendings.add(new Mending(i, s, now));
    return true;
  }

  int known(int i, int t, int what) {
    if (!in(t, 0, 3999) || !in(what, 0, 1) || sum(i, t) == 0) {
      return NONE;
    }
    return what == 0 ? sum(i, t) : ordered(t).indexOf(rows.get(i));
  }

  int holds(int house, int d, int t) {
    if (!in(house, 0, houses.size() - 1) || !in(d, 0, 3999) || !in(t, 0, 3999)) {
      return -1000000000;
    }
    int have = houses.get(house);
    for (Row r : rows) {
      if (r.day <= d) {
        int s = sum(r.number, t);
        if (r.kind == 0 && r.house == house || r.kind == 2 && r.other == house) {
          have += s;
        }
        if ((r.kind == 1 || r.kind == 2) && r.house == house) {
          have -= s;
        }
      }
    }
    return have;
  }

  int feed(int[] words) {
    if (tape.length() + 20 > 200) {
      return NONE;
    }
    StringBuilder b = new StringBuilder(tape);
    for (int w : words) {
      b.append((char) (w >> 24 & 255)).append((char) (w >> 16 & 255)).append((char) (w >> 8 & 255));
      b.append((char) (w & 255));
    }
    tape = b.toString();
    return tape.length();
  }

  // ---- texts ----

  /** The FAULT of a C that begins behind its first (; answers the place behind its ), or -1000 f - place. */
  static int check(String s, int start) {
    StringBuilder open = new StringBuilder("(");
    StringBuilder sides = new StringBuilder();
    boolean left = true;
    // 0 a PIECE may begin, 1 a FACTOR must come, 2 behind a FACTOR, 3 behind an inner C
    int state = 0;
    int p = start;
    while (true) {
      char c = p < s.length() ? s.charAt(p) : 0xFFFF;
      char top = open.charAt(open.length() - 1);
      if (state <= 1) {
        boolean opens = c == '[' || state == 0 && (c == '(' || c == '!');
        if (opens) {
          if (open.length() == 6) {
            return -5000 - p;
          }
          open.append(c);
          if (c == '[') {
            sides.append(state == 0 || left ? 'l' : 'r');
            state = 1;
            left = true;
          }
          p++;
        } else if (c >= '0' && c <= '9') {
          if (state == 0) {
            left = true;
          }
          int digits = 0;
          while (p < s.length() && Character.isDigit(s.charAt(p)) && s.charAt(p) < 128) {
            digits++;
            if (digits == 8) {
              return -2000 - p;
            }
            p++;
          }
          state = 2;
        } else if (c < 128 && "ksdhwvoepqant".indexOf(c) >= 0) {
          if (state == 0) {
            left = true;
          }
          p++;
          state = 2;
        } else {
          return -1000 - p;
        }
        continue;
      }
      if (state == 2 && "+-*/%".indexOf(c) >= 0) {
        state = 1;
        p++;
      } else if (state == 2 && top == '[') {
        if (c != ']') {
          return -1000 - p;
        }
        open.setLength(open.length() - 1);
        left = sides.charAt(sides.length() - 1) == 'l';
        sides.setLength(sides.length() - 1);
        p++;
      } else if (state == 2 && left) {
        if ("<>=".indexOf(c) < 0) {
          return -1000 - p;
        }
        left = false;
        state = 1;
        p++;
      } else {
        if ("&|)".indexOf(c) < 0) {
          return -1000 - p;
        }
        while (open.charAt(open.length() - 1) == '!') {
          open.setLength(open.length() - 1);
        }
        p++;
        if (c != ')') {
          state = 0;
        } else {
          open.setLength(open.length() - 1);
          if (open.length() == 0) {
            return p;
          }
          state = 3;
        }
      }
    }
  }

  static int digits(String s, int p, int most) {
    int q = p;
    while (q < s.length() && s.charAt(q) >= '0' && s.charAt(q) <= '9') {
      q++;
    }
    if (q == p) {
      return -1000 - p;
    }
    if (q - p > 7) {
      return -2000 - (p + 7);
    }
    return Integer.parseInt(s.substring(p, q)) > most ? -3000 - p : q;
  }

  /** 0 and the clauses, or the FAULT. */
  static int split(String s, boolean chain, List<String> clauses) {
    int p = 0;
    while (true) {
      char c = p < s.length() ? s.charAt(p) : 0xFFFF;
      int start = p;
      boolean stands = chain ? c == '(' : c == 'r' || c == 'l' || c == 'x';
      if (!stands) {
        return -1000 - p;
      }
      if (clauses.size() == (chain ? 4 : 10)) {
        return -4000 - p;
      }
      if (c == 'x') {
        p = digits(s, p + 1, 19);
        if (p < 0) {
          return p;
        }
        if (p >= s.length() || s.charAt(p) != '.') {
          return -1000 - p;
        }
        p = digits(s, p + 1, 9);
        if (p < 0) {
          return p;
        }
      } else {
        if (!chain) {
          p++;
          if (p >= s.length() || s.charAt(p) != '(') {
            return -1000 - p;
          }
        }
        p = check(s, p + 1);
        if (p < 0) {
          return p;
        }
        int letters = p;
        while (chain && !clauses.isEmpty() && p < s.length() && "pwo".indexOf(s.charAt(p)) >= 0) {
          if (s.substring(letters, p).indexOf(s.charAt(p)) >= 0) {
            return -6000 - p;
          }
          p++;
        }
      }
      clauses.add(s.substring(start, p));
      if (p == s.length()) {
        return 0;
      }
      if (s.charAt(p) != ';') {
        return -1000 - p;
      }
      p++;
    }
  }

  int rule(int from, int to, int n) {
    if (!in(from, 0, 3999) || !in(to, 0, 3999) || from > to || !in(n, 1, 160) || n > tape.length()
        || rules.size() == 20) {
      return NONE;
    }
    List<String> clauses = new ArrayList<>();
    int fault = split(tape.substring(0, n), false, clauses);
    tape = "";
    if (fault < 0) {
      return fault;
    }
    rules.add(new Rule(from, to, clauses));
    return rules.size() - 1;
  }

  int chain(int n) {
    if (!in(n, 1, 100) || n > tape.length() || chains.size() == 6) {
      return NONE;
    }
    List<String> steps = new ArrayList<>();
    int fault = split(tape.substring(0, n), true, steps);
    tape = "";
    if (fault < 0) {
      return fault;
    }
    chains.add(steps);
    return chains.size() - 1;
  }

  /** Reckons a text as it reads it; what is not asked is read with asked false. */
  private final class Reader {
    final String s;
    final Row r;
    final int t;
    int p;

    Reader(String s, Row r, int t) {
      this.s = s;
      this.r = r;
      this.t = t;
      p = s.indexOf('(') + 1;
    }

    boolean c(boolean asked) {
      boolean v = part(asked);
      while (s.charAt(p) == '|') {
        p++;
        boolean w = part(asked && !v);
        v = v || w;
      }
      return v;
    }

    boolean part(boolean asked) {
      boolean v = piece(asked);
      while (s.charAt(p) == '&') {
        p++;
        boolean w = piece(asked && v);
        v = v && w;
      }
      return v;
    }

    boolean piece(boolean asked) {
      if (s.charAt(p) == '!') {
        p++;
        return !piece(asked);
      }
      if (s.charAt(p) == '(') {
        p++;
        boolean v = c(asked);
        p++;
        return v;
      }
      long a = e(asked);
      char op = s.charAt(p++);
      long b = e(asked);
      return op == '<' ? a < b : op == '>' ? a > b : a == b;
    }

    long e(boolean asked) {
      long v = term(asked);
      while ("+-".indexOf(s.charAt(p)) >= 0) {
        v = s.charAt(p++) == '+' ? v + term(asked) : v - term(asked);
      }
      return v;
    }

    long term(boolean asked) {
      long v = factor(asked);
      while ("*/%".indexOf(s.charAt(p)) >= 0) {
        char op = s.charAt(p++);
        long w = factor(asked);
        if (op == '*') {
          v *= w;
        } else if (w == 0) {
          if (asked) {
            throw new Refused();
          }
        } else {
          v = op == '/' ? v / w : v % w;
        }
      }
      return v;
    }

    long factor(boolean asked) {
      char c = s.charAt(p++);
      if (c == '[') {
        long v = e(asked);
        p++;
        return v;
      }
      if (c >= '0' && c <= '9') {
        long v = c - '0';
        while (Character.isDigit(s.charAt(p))) {
          v = v * 10 + s.charAt(p++) - '0';
        }
        return v;
      }
      return letter(c);
    }

    long letter(char c) {
      switch (c) {
        case 'k': return r.kind;
        case 's': return sum(r.number, t);
        case 'd': return r.day;
        case 'h': return r.hour;
        case 'w': return r.hand;
        case 'v': return r.leave == unbelieved ? -1 : r.leave;
        case 'o': return r.house;
        case 'e': return r.kind == 2 ? r.other : -1;
        case 'p': return r.payee();
        case 'q': return r.paper;
        case 'a': return r.told - r.day;
        default:
      }
      long n = 0;
      long total = 0;
      for (Row x : rows) {
        if (sum(x.number, t) > 0 && x.day == r.day) {
          n += x.hand == r.hand ? 1 : 0;
          total += r.kind <= 1 && x.kind == r.kind && x.other == r.other ? sum(x.number, t) : 0;
        }
      }
      return c == 'n' ? n : total;
    }
  }

  boolean meets(String clause, Row r, int t) {
    try {
      return new Reader(clause, r, t).c(true);
    } catch (Refused e) {
      return false;
    }
  }

  int broken(int i, int t) {
    if (!in(t, 0, 3999) || sum(i, t) == 0) {
      return NONE;
    }
    Row r = rows.get(i);
    Set<String> struck = new HashSet<>();
    List<Integer> breaking = new ArrayList<>();
    int highestLet = -1;
    for (int k = rules.size() - 1; k >= 0; k--) {
      Rule rule = rules.get(k);
      if (!in(r.day, rule.from, rule.to)) {
        continue;
      }
      for (int j = 0; j < rule.clauses.size(); j++) {
        String clause = rule.clauses.get(j);
        if (struck.contains(k + "." + j)) {
          continue;
        }
        if (clause.charAt(0) == 'x') {
          int dot = clause.indexOf('.');
          int a = Integer.parseInt(clause.substring(1, dot));
          int b = Integer.parseInt(clause.substring(dot + 1));
          if (a < k && in(r.day, rules.get(a).from, rules.get(a).to)) {
            struck.add(a + "." + b);
          }
        } else if (meets(clause, r, t)) {
          if (clause.charAt(0) == 'r') {
            breaking.add(k);
          } else {
            highestLet = Math.max(highestLet, k);
          }
        }
      }
    }
    int by = -2;
    for (int k : breaking) {
      if (k > highestLet) {
        by = Math.max(by, k);
      }
    }
    return by;
  }

  boolean clear(int i, int hand) {
    if (!in(i, 0, rows.size() - 1) || !in(hand, 0, 15) || cleared[i] >= 0) {
      return false;
    }
    cleared[i] = now;
    return true;
  }

  boolean isFinding(int i, int t) {
    return broken(i, t) >= 0 && (cleared[i] < 0 || cleared[i] > t);
  }

  List<Integer> allFindings(int t) {
    List<Integer> list = new ArrayList<>();
    for (Row r : ordered(t)) {
      if (isFinding(r.number, t)) {
        list.add(r.number);
      }
    }
    return list;
  }

  int findings(int t) {
    return in(t, 0, 3999) ? allFindings(t).size() : NONE;
  }

  int finding(int t, int k) {
    if (!in(t, 0, 3999)) {
      return NONE;
    }
    List<Integer> list = allFindings(t);
    return in(k, 0, list.size() - 1) ? list.get(k) : NONE;
  }

  int parted(int s, int n) {
    if (!in(s, 0, 12000000) || !in(n, 1, 12) || n > tape.length()) {
      return NONE;
    }
    String told = tape.substring(0, n);
    tape = "";
    int all = 0;
    Set<Integer> seen = new HashSet<>();
    for (char c : told.toCharArray()) {
      if (sum(c, now) == 0 || !seen.add((int) c)) {
        return -3;
      }
      all += sum(c, now);
    }
    for (int size = 0; size <= n; size++) {
      for (int set = 0; set < 1 << n; set++) {
        int here = 0;
        for (int k = 0; k < n; k++) {
          here += (set >> k & 1) * sum(told.charAt(k), now);
        }
        if (Integer.bitCount(set) == size && here == all - s) {
          return set;
        }
      }
    }
    return -2;
  }

  /** All that may be: for each HOUSE how many of the coins it may have. */
  int followed(int a, int b, boolean most) {
    if (!in(a, 0, houses.size() - 1) || !in(b, 0, houses.size() - 1)) {
      return NONE;
    }
    int size = houses.size();
    int[] have = new int[size];
    for (int h = 0; h < size; h++) {
      have[h] = houses.get(h);
    }
    List<Integer> start = new ArrayList<>();
    for (int h = 0; h < size; h++) {
      start.add(h == a ? have[h] : 0);
    }
    Set<List<Integer>> may = new HashSet<>();
    may.add(start);
    for (Row r : ordered(now)) {
      int s = sum(r.number, now);
      if (r.kind == 0) {
        have[r.house] += s;
      } else if (r.kind <= 2) {
        int own = Math.min(s, have[r.house]);
        if ((long) may.size() * Math.min(own, houses.get(a)) > 100000) {
          return UNSURE;
        }
        Set<List<Integer>> next = new HashSet<>();
        for (List<Integer> one : may) {
          int marked = one.get(r.house);
          for (int y = 0; y <= Math.min(marked, own); y++) {
            if (marked - y <= have[r.house] - own) {
              List<Integer> other = new ArrayList<>(one);
              other.set(r.house, marked - y);
              if (r.kind == 2) {
                other.set(r.other, other.get(r.other) + y);
              }
              next.add(other);
            }
          }
        }
        may = next;
        have[r.house] -= own;
        if (r.kind == 2) {
          have[r.other] += s;
        }
      }
    }
    int best = most ? 0 : Integer.MAX_VALUE;
    for (List<Integer> one : may) {
      best = most ? Math.max(best, one.get(b)) : Math.min(best, one.get(b));
    }
    return best;
  }

  private long tried;

  int rounds(int days, int hundredths) {
    if (!in(days, 0, 3999) || !in(hundredths, 0, 100)) {
      return NONE;
    }
    tried = 0;
    List<Row> list = ordered(now);
    long found = 0;
    for (int p = 0; p < list.size(); p++) {
      if (list.get(p).kind == 2) {
        List<Row> way = new ArrayList<>();
        way.add(list.get(p));
        found += roundsBehind(list, p, way, days, hundredths);
      }
    }
    return tried > 3000000 ? UNSURE : (int) Math.min(100000, found);
  }

  private long roundsBehind(List<Row> list, int p, List<Row> way, int days, int hundredths) {
    Row first = way.get(0);
    Row last = way.get(way.size() - 1);
    long found = 0;
    for (int q = p + 1; q < list.size() && tried <= 3000000; q++) {
      tried++;
      Row r = list.get(q);
      int s = sum(first.number, now);
      if (r.kind != 2 || r.house != last.other || r.day - first.day > days
          || Math.abs(sum(r.number, now) - s) > Math.floorDiv(s * hundredths, 100)) {
        continue;
      }
      boolean twice = false;
      for (Row w : way) {
        twice |= w.other == r.other;
      }
      if (twice) {
        continue;
      }
      if (r.other == first.house) {
        found++;
      } else if (way.size() < 5) {
        way.add(r);
        found += roundsBehind(list, q, way, days, hundredths);
        way.remove(way.size() - 1);
      }
    }
    return found;
  }

  private List<Integer> firstFit;
  private long fitCount;

  /** False if there is no such chain, or so; else firstFit and fitCount are told. */
  private boolean fit(int c, int days, int s) {
    if (!in(c, 0, chains.size() - 1) || !in(days, 0, 3999) || !in(s, 0, 4000000)) {
      return false;
    }
    firstFit = null;
    fitCount = 0;
    tried = 0;
    List<String> steps = chains.get(c);
    List<Row> list = ordered(now);
    boolean[][] meets = new boolean[steps.size()][list.size()];
    for (int k = 0; k < steps.size(); k++) {
      for (int p = 0; p < list.size(); p++) {
        meets[k][p] = meets(steps.get(k), list.get(p), now);
      }
    }
    tryFit(steps, list, meets, new ArrayList<>(), new int[] {days, s});
    return true;
  }

  private void tryFit(List<String> steps, List<Row> list, boolean[][] meets, List<Integer> way, int[] told) {
    if (way.size() == steps.size()) {
      int s = 0;
      List<Integer> numbers = new ArrayList<>();
      for (int p : way) {
        s += sum(list.get(p).number, now);
        numbers.add(list.get(p).number);
      }
      if (s >= told[1]) {
        fitCount++;
        if (firstFit == null || before(numbers, firstFit)) {
          firstFit = numbers;
        }
      }
      return;
    }
    int k = way.size();
    for (int p = k == 0 ? 0 : way.get(k - 1) + 1; p < list.size() && tried <= 2000000; p++) {
      tried++;
      Row r = list.get(p);
      Row first = k == 0 ? r : list.get(way.get(0));
      String letters = steps.get(k).substring(steps.get(k).lastIndexOf(')') + 1);
      boolean so = (letters.indexOf('p') < 0 || r.payee() == first.payee())
          && (letters.indexOf('w') < 0 || r.hand == first.hand)
          && (letters.indexOf('o') < 0 || r.house == first.house);
      if (meets[k][p] && so && r.day - first.day <= told[0]) {
        way.add(p);
        tryFit(steps, list, meets, way, told);
        way.remove(k);
      }
    }
  }

  private static boolean before(List<Integer> a, List<Integer> b) {
    for (int k = 0; k < a.size(); k++) {
      if (!a.get(k).equals(b.get(k))) {
        return a.get(k) < b.get(k);
      }
    }
    return false;
  }

  int fits(int c, int days, int s) {
    if (!fit(c, days, s)) {
      return NONE;
    }
    return tried > 2000000 ? UNSURE : (int) Math.min(100000, fitCount);
  }

  int fitted(int c, int days, int s, int i) {
    if (!fit(c, days, s)) {
      return NONE;
    }
    if (tried > 2000000) {
      return UNSURE;
    }
    return firstFit == null || !in(i, 0, firstFit.size() - 1) ? NONE : firstFit.get(i);
  }

  static BigInteger choose(int n, int k) {
    if (k < 0 || k > n) {
      return BigInteger.ZERO;
    }
    BigInteger[] row = new BigInteger[n + 1];
    Arrays.fill(row, BigInteger.ZERO);
    row[0] = BigInteger.ONE;
    for (int i = 0; i < n; i++) {
      for (int j = n; j > 0; j--) {
        row[j] = row[j].add(row[j - 1]);
      }
    }
    return row[k];
  }

  /** ways, of how many, n, x, N, M; or null. */
  private BigInteger[] dealt(int hand, int kind, int r) {
    if (!in(hand, 0, 15) || !in(kind, 0, 3) || !in(r, 0, rules.size() - 1)) {
      return null;
    }
    String marking = null;
    for (String clause : rules.get(r).clauses) {
      if (marking == null && clause.charAt(0) == 'r') {
        marking = clause;
      }
    }
    int[] c = new int[4];
    for (Row row : ordered(now)) {
      if (marking != null && row.kind == kind) {
        boolean marked = meets(marking, row, now);
        c[0] += row.hand == hand ? 1 : 0;
        c[1] += row.hand == hand && marked ? 1 : 0;
        c[2]++;
        c[3] += marked ? 1 : 0;
      }
    }
    if (marking == null || c[2] > 50) {
      return null;
    }
    BigInteger sum = BigInteger.ZERO;
    for (int x = c[1]; x <= c[0]; x++) {
      sum = sum.add(choose(c[3], x).multiply(choose(c[2] - c[3], c[0] - x)));
    }
    return new BigInteger[] {sum, choose(c[2], c[0]), BigInteger.valueOf(c[0]), BigInteger.valueOf(c[1]),
      BigInteger.valueOf(c[2]), BigInteger.valueOf(c[3])};
  }

  long ways(int hand, int kind, int r, int what) {
    BigInteger[] d = dealt(hand, kind, r);
    return d == null || !in(what, 0, 5) ? NONE : d[what].longValueExact();
  }

  int odd(int hand, int kind, int r, int share) {
    BigInteger[] d = dealt(hand, kind, r);
    if (d == null || !in(share, 0, 1000)) {
      return NONE;
    }
    BigInteger left = d[0].multiply(BigInteger.valueOf(1000));
    return left.compareTo(d[1].multiply(BigInteger.valueOf(share))) <= 0 ? 1 : 0;
  }

  static boolean isOwner(int k, boolean payee) {
    return in(k, 0, payee ? 19 : 15);
  }

  boolean things(int k, boolean payee, int set) {
    if (!isOwner(k, payee) || set < 0 || set >= 1 << 30) {
      return false;
    }
    things[payee ? 1 : 0][k] = set;
    return true;
  }

  int behind(int a, boolean payeeA, int b, boolean payeeB) {
    if (!isOwner(a, payeeA) || !isOwner(b, payeeB)) {
      return NONE;
    }
    boolean[][] one = new boolean[36][36];
    for (int i = 0; i < 36; i++) {
      for (int j = 0; j < 36; j++) {
        one[i][j] = i == j || (thingsOf(i) & thingsOf(j)) != 0;
      }
    }
    for (int k = 0; k < 36; k++) {
      for (int i = 0; i < 36; i++) {
        for (int j = 0; j < 36; j++) {
          one[i][j] |= one[i][k] && one[k][j];
        }
      }
    }
    return one[payeeA ? 16 + a : a][payeeB ? 16 + b : b] ? 1 : 0;
  }

  private int thingsOf(int k) {
    return k < 16 ? things[0][k] : things[1][k - 16];
  }

  int grown(int k) {
    if (!in(k, 0, 15)) {
      return -1000000000;
    }
    int all = 0;
    for (Row r : ordered(now)) {
      if (r.kind <= 1 && behind(k, false, r.other, true) == 1) {
        all += r.kind == 1 ? sum(r.number, now) : -sum(r.number, now);
      }
    }
    return all;
  }

  int sample(int n, int seed, int what) {
    List<Row> list = ordered(now);
    if (!in(n, 1, 50) || !in(seed, 0, 65535) || list.isEmpty()) {
      return NONE;
    }
    long total = 0;
    for (Row r : list) {
      total += sum(r.number, now);
    }
    List<Integer> drawn = new ArrayList<>();
    BigInteger x = BigInteger.valueOf(seed);
    for (int k = 0; k < n; k++) {
      x = x.multiply(BigInteger.valueOf(25173)).add(BigInteger.valueOf(13849)).mod(BigInteger.valueOf(65536));
      long coin = x.multiply(BigInteger.valueOf(total)).divide(BigInteger.valueOf(65536)).longValueExact();
      int p = 0;
      while (coin >= sum(list.get(p).number, now)) {
        coin -= sum(list.get(p).number, now);
        p++;
      }
      if (!drawn.contains(list.get(p).number)) {
        drawn.add(list.get(p).number);
      }
    }
    long wrong = 0;
    long right = 0;
    for (int i : drawn) {
      if (isFinding(i, now)) {
        wrong += sum(i, now);
      } else {
        right += sum(i, now);
      }
    }
    if (what == 0) {
      return drawn.size();
    }
    if (what == 1) {
      return (int) wrong;
    }
    if (what == 2) {
      return (int) (total - right);
    }
    return what >= 10 && what - 10 < drawn.size() ? drawn.get(what - 10) : NONE;
  }

  int ask(int hand, int row, int day) {
    if (!in(hand, 0, 15) || !in(row, 0, rows.size() - 1) || day <= now || day > 3999 || askings.size() == 60) {
      return NONE;
    }
    Asking a = new Asking();
    a.row = row;
    a.day = day;
    askings.add(a);
    return askings.size() - 1;
  }

  boolean answer(int k, int s) {
    if (!in(k, 0, askings.size() - 1) || !in(s, 0, 1000000) || askings.get(k).answer >= 0) {
      return false;
    }
    askings.get(k).answer = s;
    return true;
  }

  int asked(int k) {
    if (!in(k, 0, askings.size() - 1)) {
      return NONE;
    }
    Asking a = askings.get(k);
    if (a.answer < 0) {
      return now > a.day ? 1 : 0;
    }
    return sum(a.row, now) == 0 || sum(a.row, now) != a.answer ? 2 : 3;
  }

  int ifFalse(int hand) {
    if (!in(hand, 0, 15)) {
      return NONE;
    }
    unbelieved = hand;
    int size = findings(now);
    unbelieved = -1;
    return size;
  }

  boolean putIn(int i) {
    if (!in(i, 0, rows.size() - 1) || put.contains(i)) {
      return false;
    }
    put.add(i);
    return true;
  }

  int found(int what) {
    int size = 0;
    for (int i : put) {
      size += what == 0 && sum(i, now) > 0 || what == 1 && isFinding(i, now) ? 1 : 0;
    }
    return in(what, 0, 1) ? size : NONE;
  }

  int reading(int hours, int worth, int wants) {
    if (!in(hours, 1, 1000) || !in(worth, 0, 100000) || !in(wants, -1, readings.size() - 1)
        || readings.size() == 9) {
      return NONE;
    }
    readings.add(new Reading(hours, worth, wants));
    return readings.size() - 1;
  }

  int judge(int set) {
    if (set < 0 || set >= 1 << readings.size()) {
      return NONE;
    }
    int worth = 0;
    for (int k = 0; k < readings.size(); k++) {
      if ((set >> k & 1) == 1) {
        int wants = readings.get(k).wants;
        if (wants >= 0 && (set >> wants & 1) == 0) {
          return -2;
        }
        worth += readings.get(k).worth;
      }
    }
    return worth;
  }

  int best(int hours) {
    if (!in(hours, 0, 10000)) {
      return NONE;
    }
    int best = 0;
    int bestHours = 0;
    for (int set = 0; set < 1 << readings.size(); set++) {
      int cost = 0;
      for (int k = 0; k < readings.size(); k++) {
        cost += (set >> k & 1) * readings.get(k).hours;
      }
      int worth = judge(set);
      if (worth >= 0 && cost <= hours && (worth > judge(best) || worth == judge(best) && cost < bestHours)) {
        best = set;
        bestHours = cost;
      }
    }
    return best;
  }

  int look(int i, int what) {
    if (!in(i, 0, rows.size() - 1)) {
      return NONE;
    }
    Row r = rows.get(i);
    int[] cells = {r.kind, r.house, r.other, r.day, r.hour, r.sum, r.hand, r.leave, r.paper, r.told, cleared[i]};
    return in(what, 0, 10) ? cells[what] : NONE;
  }

  int count(int what) {
    int[] sizes = {now, houses.size(), rows.size(), rules.size(), mendings.size(), chains.size(), askings.size(),
      readings.size(), tape.length()};
    if (in(what, 0, 8)) {
      return sizes[what];
    }
    if (in(what - 20, 0, rules.size() - 1)) {
      return rules.get(what - 20).clauses.size();
    }
    return what >= 40 && what - 40 < chains.size() ? chains.get(what - 40).size() : NONE;
  }
}
