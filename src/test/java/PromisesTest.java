/** Each promise of the document, with answers worked out by hand: ordinary inputs, edges and wrong inputs. */
public final class PromisesTest {
  private static final int NONE = -1;
  private static final int NO_SUM = -1000000000;
  private static final int LEAST = Integer.MIN_VALUE;
  private static final int MOST = Integer.MAX_VALUE;

  private PromisesTest() { }

  public static void main(String[] args) {
    newObject();
    now();
    house();
    row();
    mend();
    known();
    holds();
    feed();
    rule();
    ruleFaults();
    broken();
    conditions();
    clear();
    findings();
    parted();
    followed();
    rounds();
    chain();
    fits();
    ways();
    things();
    sample();
    askings();
    ifFalse();
    putIn();
    readings();
    look();
    count();
    Due.end();
  }

  private static void newObject() {
    RowAuditor x = new RowAuditor();
    for (int what = 0; what <= 8; what++) {
      Due.is(1, "count(" + what + ")", x.count(what), 0);
    }
    Due.is(1, "NONE", RowAuditor.NONE, -1);
    Due.is(1, "findings(0)", x.findings(0), 0);
    Due.is(1, "look(0, 0)", x.look(0, 0), NONE);
    Due.is(1, "best(10)", x.best(10), 0);
    Due.is(1, "judge(0)", x.judge(0), 0);
    Due.is(1, "judge(1)", x.judge(1), NONE);
    Due.is(1, "rounds(0, 0)", x.rounds(0, 0), 0);
    Due.is(1, "followed(0, 0)", x.followed(0, 0, true), NONE);
    Due.is(1, "sample", x.sample(1, 0, 0), NONE);
    Due.is(1, "found(0)", x.found(0), 0);
    Due.is(1, "grown(0)", x.grown(0), 0);
    Due.is(1, "ifFalse(0)", x.ifFalse(0), 0);
  }

  private static void now() {
    RowAuditor x = new RowAuditor();
    Due.is(2, "now(0)", x.now(0), true);
    Due.is(2, "now(-1)", x.now(-1), false);
    Due.is(2, "now(5)", x.now(5), true);
    Due.is(2, "now(5) again", x.now(5), true);
    Due.is(2, "now(4)", x.now(4), false);
    Due.is(2, "NOW stays", x.count(0), 5);
    Due.is(2, "now(4000)", x.now(4000), false);
    Due.is(2, "now(MOST)", x.now(MOST), false);
    Due.is(2, "now(3999)", x.now(3999), true);
    Due.is(2, "NOW", x.count(0), 3999);
  }

  private static void house() {
    RowAuditor x = new RowAuditor();
    Due.is(3, "house(-1)", x.house(-1), NONE);
    Due.is(3, "house(1000001)", x.house(1000001), NONE);
    Due.is(3, "house(1000000)", x.house(1000000), 0);
    for (int k = 1; k < 10; k++) {
      Due.is(3, "house(0)", x.house(0), k);
    }
    Due.is(3, "an eleventh", x.house(0), NONE);
    Due.is(3, "count", x.count(1), 10);
    Due.is(3, "its sum", x.holds(0, 0, 0), 1000000);
  }

  private static void row() {
    RowAuditor x = Tell.withHouses(5, 6);
    x.now(10);
    Due.is(4, "least of all", x.row(0, 0, 0, 0, 0, 1, 0, NONE, NONE), 0);
    Due.is(4, "most of all", x.row(1, 1, 19, 10, 23, 1000000, 15, 14, 99), 1);
    Due.is(4, "move", x.row(2, 1, 0, 3, 4, 5, 6, 0, 0), 2);
    Due.is(4, "guess", x.row(3, 1, NONE, 3, 4, 5, 6, 15, 0), 3);
    int[][] wrong = {
      {-1, 0, 0, 0, 0, 1, 0, -1, -1}, {4, 0, 0, 0, 0, 1, 0, -1, -1}, {0, -1, 0, 0, 0, 1, 0, -1, -1},
      {0, 2, 0, 0, 0, 1, 0, -1, -1}, {0, 0, -1, 0, 0, 1, 0, -1, -1}, {1, 0, 20, 0, 0, 1, 0, -1, -1},
      {2, 0, 2, 0, 0, 1, 0, -1, -1}, {2, 0, 0, 0, 0, 1, 0, -1, -1}, {2, 0, -1, 0, 0, 1, 0, -1, -1},
      {3, 0, 0, 0, 0, 1, 0, -1, -1}, {3, 0, -2, 0, 0, 1, 0, -1, -1}, {0, 0, 0, -1, 0, 1, 0, -1, -1},
      {0, 0, 0, 11, 0, 1, 0, -1, -1}, {0, 0, 0, 0, -1, 1, 0, -1, -1}, {0, 0, 0, 0, 24, 1, 0, -1, -1},
      {0, 0, 0, 0, 0, 0, 0, -1, -1}, {0, 0, 0, 0, 0, 1000001, 0, -1, -1}, {0, 0, 0, 0, 0, 1, -1, -1, -1},
      {0, 0, 0, 0, 0, 1, 16, -1, -1}, {0, 0, 0, 0, 0, 1, 0, -2, -1}, {0, 0, 0, 0, 0, 1, 0, 16, -1},
      {0, 0, 0, 0, 0, 1, 0, 0, -1}, {0, 0, 0, 0, 0, 1, 0, -1, -2}, {0, 0, 0, 0, 0, 1, 0, -1, 100},
      {LEAST, LEAST, LEAST, LEAST, LEAST, LEAST, LEAST, LEAST, LEAST},
      {MOST, MOST, MOST, MOST, MOST, MOST, MOST, MOST, MOST},
    };
    for (int[] a : wrong) {
      Due.is(4, "row" + java.util.Arrays.toString(a),
          x.row(a[0], a[1], a[2], a[3], a[4], a[5], a[6], a[7], a[8]), NONE);
    }
    Due.is(4, "count", x.count(2), 4);
    for (int i = 4; i < 150; i++) {
      Due.is(4, "row " + i, Tell.pay(x, 0, 0, 0, 1, 0), i);
    }
    Due.is(4, "a 151st", Tell.pay(x, 0, 0, 0, 1, 0), NONE);
    Due.is(4, "count", x.count(2), 150);
  }

  private static void mend() {
    RowAuditor x = Tell.withHouses(0);
    Tell.pay(x, 0, 0, 0, 10, 0);
    Tell.pay(x, 0, 0, 0, 20, 0);
    Due.is(5, "no such row", x.mend(2, 1), false);
    Due.is(5, "no such row", x.mend(-1, 1), false);
    Due.is(5, "no such sum", x.mend(0, -1), false);
    Due.is(5, "no such sum", x.mend(0, 1000001), false);
    Due.is(5, "most", x.mend(0, 1000000), true);
    Due.is(5, "the latest of a day", x.mend(0, 7), true);
    Due.is(5, "it counts", x.known(0, 0, 0), 7);
    Due.is(5, "as told", x.look(0, 5), 10);
    Due.is(5, "taken out", x.mend(1, 0), true);
    Due.is(5, "no more", x.mend(1, 5), false);
    Due.is(5, "nor out twice", x.mend(1, 0), false);
    Due.is(5, "count", x.count(4), 3);
    for (int k = 3; k < 100; k++) {
      Due.is(5, "mending " + k, x.mend(0, k), true);
    }
    Due.is(5, "a 101st", x.mend(0, 5), false);
    Due.is(5, "the hundredth stands", x.known(0, 0, 0), 99);
  }

  private static void known() {
    RowAuditor x = Tell.withHouses(0);
    x.now(5);
    x.row(1, 0, 0, 5, 7, 10, 0, NONE, NONE);
    x.row(1, 0, 0, 3, 9, 20, 0, NONE, NONE);
    x.row(1, 0, 0, 5, 6, 30, 0, NONE, NONE);
    x.row(1, 0, 0, 5, 7, 40, 0, NONE, NONE);
    x.now(8);
    x.row(1, 0, 0, 0, 0, 50, 0, NONE, NONE);
    int[] placesThen = {2, 0, 1, 3};
    int[] placesNow = {3, 1, 2, 4, 0};
    for (int i = 0; i < 4; i++) {
      Due.is(6, "place then", x.known(i, 5, 1), placesThen[i]);
      Due.is(6, "place now", x.known(i, 8, 1), placesNow[i]);
      Due.is(6, "not told yet", x.known(i, 4, 0), NONE);
    }
    Due.is(6, "told late", x.known(4, 7, 0), NONE);
    Due.is(6, "told late", x.known(4, 8, 0), 50);
    Due.is(6, "first in order", x.known(4, 8, 1), 0);
    x.mend(1, 21);
    x.now(9);
    x.mend(1, 0);
    Due.is(6, "before the mending", x.known(1, 7, 0), 20);
    Due.is(6, "mended", x.known(1, 8, 0), 21);
    Due.is(6, "out", x.known(1, 9, 0), NONE);
    Due.is(6, "out, on a day to come", x.known(1, 3999, 0), NONE);
    Due.is(6, "place without it", x.known(0, 9, 1), 2);
    Due.is(6, "no such day", x.known(0, -1, 0), NONE);
    Due.is(6, "no such day", x.known(0, 4000, 0), NONE);
    Due.is(6, "no such what", x.known(0, 8, 2), NONE);
    Due.is(6, "no such what", x.known(0, 8, -1), NONE);
    Due.is(6, "no such row", x.known(5, 8, 0), NONE);
    Due.is(6, "no such row", x.known(-1, 8, 0), NONE);
  }

  private static void holds() {
    RowAuditor x = Tell.withHouses(100, 10);
    x.now(4);
    Tell.sale(x, 0, 1, 1, 5, 0);
    Tell.pay(x, 0, 1, 2, 200, 0);
    Tell.move(x, 0, 1, 3, 30);
    x.row(3, 0, NONE, 0, 0, 999, 0, NONE, NONE);
    int[] zero = {100, 105, -95, -125, -125};
    int[] one = {10, 10, 10, 40, 40};
    for (int d = 0; d < 5; d++) {
      Due.is(7, "house 0 by day " + d, x.holds(0, d, 4), zero[d]);
      Due.is(7, "house 1 by day " + d, x.holds(1, d, 4), one[d]);
      Due.is(7, "before all was told", x.holds(0, d, 3), 100);
    }
    x.now(6);
    x.mend(1, 1);
    Due.is(7, "as known later", x.holds(0, 3999, 6), 74);
    Due.is(7, "as known then", x.holds(0, 3999, 5), -125);
    Due.is(7, "no such house", x.holds(2, 0, 0), NO_SUM);
    Due.is(7, "no such house", x.holds(-1, 0, 0), NO_SUM);
    Due.is(7, "no such day", x.holds(0, 4000, 0), NO_SUM);
    Due.is(7, "no such day", x.holds(0, -1, 0), NO_SUM);
    Due.is(7, "no such day", x.holds(0, 0, 4000), NO_SUM);
    Due.is(7, "no such day", x.holds(0, 0, -1), NO_SUM);
  }

  private static void feed() {
    RowAuditor x = new RowAuditor();
    for (int k = 1; k <= 10; k++) {
      Due.is(8, "feed", x.feed(0x72286B3D, 0x31290000, -1, 0, 0), 20 * k);
    }
    Due.is(8, "an eleventh", x.feed(0, 0, 0, 0, 0), NONE);
    Due.is(8, "it stays", x.count(8), 200);
    Due.is(8, "the highest byte first", x.rule(0, 0, 6), 0);
    Due.is(8, "empty then", x.count(8), 0);
    x.feed(0, 0, 0, 0, 0x72000000);
    Due.is(8, "a zero byte can't stand", x.rule(0, 0, 17), -1000);
    x.feed(0xF2286B3D, 0x31290000, 0, 0, 0);
    Due.is(8, "bytes above 127 can't stand", x.rule(0, 0, 6), -1000);
  }

  private static void rule() {
    RowAuditor x = new RowAuditor();
    Due.feed(x, "r(k=1)");
    int[][] wrong = {{-1, 0, 6}, {0, 4000, 6}, {4000, 4000, 6}, {5, 4, 6}, {0, 0, 0}, {0, 0, -1}, {0, 0, 161},
      {0, 0, 21}, {0, 0, MOST}, {0, -1, 6}};
    for (int[] a : wrong) {
      Due.is(9, "rule" + java.util.Arrays.toString(a), x.rule(a[0], a[1], a[2]), NONE);
      Due.is(9, "the tape stays", x.count(8), 20);
    }
    Due.is(9, "one day", x.rule(3999, 3999, 6), 0);
    Due.is(9, "empty then", x.count(8), 0);
    Due.is(9, "a fault empties, too", Due.rule(x, "r(k=1"), -1005);
    Due.is(9, "empty then", x.count(8), 0);
    Due.is(9, "ten clauses", Due.rule(x, "x0.0;x19.9;x1.1;r(k=1);l(k=2);x0.0;x0.0;x0.0;x0.0;x0.0"), 1);
    Due.is(9, "clauses", x.count(21), 10);
    StringBuilder longest = new StringBuilder("r(1");
    while (longest.length() < 157) {
      longest.append("+1");
    }
    longest.append("=0)");
    Due.is(9, "160 bytes", longest.length(), 160);
    Due.is(9, "160 bytes", Due.rule(x, longest.toString()), 2);
    Due.is(9, "161 bytes", Due.rule(x, longest.insert(2, '1').toString()), NONE);
    Due.is(9, "the tape stays", x.count(8), 180);
    x.rule(0, 0, 1);
    for (int k = 3; k < 20; k++) {
      Due.is(9, "rule " + k, Due.rule(x, "r(k=1)"), k);
    }
    Due.is(9, "a 21st", Due.rule(x, "r(k=1)"), NONE);
    Due.is(9, "the tape stays", x.count(8), 20);
    Due.is(9, "count", x.count(3), 20);
  }

  private static void fault(String text, int due) {
    RowAuditor x = new RowAuditor();
    Due.is(9, text, Due.rule(x, text), due);
    Due.is(9, "rules by " + text, x.count(3), due == 0 ? 1 : 0);
  }

  private static void ruleFaults() {
    fault("r(k=1)", 0);
    fault(";", -1000);
    fault("r(k=1);", -1007);
    fault("r(k=1);;", -1007);
    fault("r(k=1)r(k=1)", -1006);
    fault("r k=1)", -1001);
    fault("r()", -1002);
    fault("r(k)", -1003);
    fault("r(k=)", -1004);
    fault("r(=1)", -1002);
    fault("r(k==1)", -1004);
    fault("r(k=1=1)", -1005);
    fault("r(k=1&)", -1006);
    fault("r(k=1|&k=1)", -1006);
    fault("r((k=1)", -1007);
    fault("r((k)=1)", -1004);
    fault("r([k]=1)", 0);
    fault("r([k=1])", -1004);
    fault("r([k=1)", -1004);
    fault("r([]=1)", -1003);
    fault("r(k=(1))", -1004);
    fault("r(k=!1)", -1004);
    fault("r(!k)", -1004);
    fault("r(!!k=1)", 0);
    fault("r(-1=k)", -1002);
    fault("r(1--1=k)", -1004);
    fault("r(1k=1)", -1003);
    fault("r(kk=1)", -1003);
    fault("r((k=1)(k=1))", -1007);
    fault("r((k=1)k=1)", -1007);
    fault("r(K=1)", -1002);
    fault("r(k =1)", -1003);
    fault("r(b=1)", -1002);
    fault("r(k+s-d*h/w%v+o+e+p+q+a+n+t=1)", 0);
    fault("r(1234567=1)", 0);
    fault("r(12345678=1)", -2009);
    fault("r(123456789=1)", -2009);
    fault("r(00000000=1)", -2009);
    fault("r(0000000=1)", 0);
    fault("x0.0", 0);
    fault("x", -1001);
    fault("x.", -1001);
    fault("x0", -1002);
    fault("x0.", -1003);
    fault("x0.0.", -1004);
    fault("x19.9", 0);
    fault("x0000019.0000009", 0);
    fault("x20.0", -3001);
    fault("x20", -3001);
    fault("x20;", -3001);
    fault("x0.10", -3003);
    fault("x0.10)", -3003);
    fault("x00000001.0", -2008);
    fault("x99999999.0", -2008);
    fault("x0.00000000", -2010);
    fault("x00.010", -3004);
    fault("x0.0x0.0", -1004);
    fault("y(k=1)", -1000);
    fault("r(k=1);y(k=1)", -1007);
    String ten = "x0.0;x0.0;x0.0;x0.0;x0.0;x0.0;x0.0;x0.0;x0.0;x0.0";
    fault(ten, 0);
    fault(ten + ";", -1050);
    fault(ten + ";q", -1050);
    fault(ten + ";r", -4050);
    fault(ten + ";l(k=1)", -4050);
    fault(ten + ";x0.0", -4050);
    fault("r(((((( k=1))))))", -1007);
    fault("r((((((k=1))))))", 0);
    fault("r(((((((k=1)))))))", -5007);
    fault("r(!!!!!k=1)", 0);
    fault("r(!!!!!!k=1)", -5007);
    fault("r(!!!!!(k=1))", -5007);
    fault("r(!!!!![k]=1)", -5007);
    fault("r(!!!!!k=[1])", -5009);
    fault("r([[[[[k]]]]]=1)", 0);
    fault("r([[[[[[k]]]]]]=1)", -5007);
    fault("r(k=[[[[[1]]]]])", 0);
    fault("r(k=[[[[[[1]]]]]])", -5009);
    fault("r(!k=1&!k=1&!k=1&!k=1&!k=1&!k=1&!k=1&!k=1)", 0);
    fault("r(!(!(!k=1|!k=1)&!!!k=2)&!!!!!k=1)", 0);
    fault("r(!(!(!k=1|!!k=1)&!!!k=2)&!!!!!k=1)", -5012);
    fault("r(!(k=1)&!!!!!k=1)", 0);
    fault("r((k=1)&(k=1)|(k=1)&[k]+[k]=[k]&((((k=1)))))", 0);
    fault("r(((((([k=1", -5007);
    fault("r((((((k=(", -1009);
  }

  private static void broken() {
    RowAuditor x = Tell.withHouses(0);
    x.now(5);
    Tell.pay(x, 0, 0, 3, 10, 0);
    Tell.pay(x, 0, 0, 4, 20, 1);
    Due.is(10, "no rules", x.broken(0, 5), -2);
    Due.is(10, "not known then", x.broken(0, 4), NONE);
    Due.is(10, "no such row", x.broken(2, 5), NONE);
    Due.is(10, "no such row", x.broken(-1, 5), NONE);
    Due.is(10, "no such day", x.broken(0, 4000), NONE);
    Due.is(10, "no such day", x.broken(0, -1), NONE);
    Due.rule(x, 3, 3, "r(k=1)");
    Due.is(10, "in force", x.broken(0, 5), 0);
    Due.is(10, "no more in force", x.broken(1, 5), -2);
    Due.rule(x, 0, 9, "l(w=0)");
    Due.is(10, "let by a higher one", x.broken(0, 5), -2);
    Due.rule(x, 0, 9, "r(s>5)");
    Due.is(10, "broken by a higher one than that which lets", x.broken(0, 5), 2);
    Due.rule(x, 0, 9, "r(s>5);l(w=1)");
    Due.is(10, "the highest", x.broken(0, 5), 3);
    Due.is(10, "let in the same one", x.broken(1, 5), -2);
    Due.rule(x, 0, 9, "x3.1;x3.0");
    Due.is(10, "struck", x.broken(0, 5), 2);
    Due.is(10, "struck", x.broken(1, 5), 2);
    Due.rule(x, 0, 9, "x4.1;x2.0;x5.0;x9.0;x1.7");
    Due.is(10, "an x struck", x.broken(0, 5), 3);
    Due.is(10, "the other x strikes on", x.broken(1, 5), 3);
    Due.rule(x, 4, 4, "x5.0");
    Due.is(10, "an x struck on its day alone", x.broken(0, 5), 3);
    Due.is(10, "an x struck, so both strike", x.broken(1, 5), -2);
    Due.rule(x, 4, 4, "x6.0;x0.0");
    Due.is(10, "again", x.broken(1, 5), 3);
    x.mend(1, 0);
    Due.is(10, "taken out", x.broken(1, 5), NONE);
  }

  private static void condition(String c, boolean due) {
    RowAuditor x = Tell.withHouses(0, 0, 0);
    x.now(7);
    x.row(1, 2, 4, 5, 13, 60, 3, 9, 77);
    x.row(1, 1, 4, 5, 2, 40, 3, NONE, NONE);
    x.row(0, 1, 4, 5, 2, 500, 2, NONE, NONE);
    x.row(1, 1, 5, 5, 2, 600, 3, NONE, NONE);
    x.row(1, 1, 4, 6, 2, 700, 3, NONE, NONE);
    x.row(1, 1, 4, 5, 2, 800, 3, NONE, NONE);
    x.mend(5, 0);
    Due.is(10, c, Due.meets(x, c, 0, 7), due);
  }

  private static void conditions() {
    condition("k=1&s=60&d=5&h=13&w=3&v=9&o=2&e=0-1&p=4&q=77&a=2&n=3&t=100", true);
    condition("k=1&s=60&d=5&h=13&w=3&v=9&o=2&e=0-1&p=4&q=77&a=2&n=3&t=101", false);
    condition("1<2&2>1&1=1", true);
    condition("1<1|1>1|1=2", false);
    condition("1=1|1=1&1=2", true);
    condition("(1=1|1=1)&1=2", false);
    condition("!1=1|1=1", true);
    condition("!(1=1|1=1)", false);
    condition("!1=2&1=2", false);
    condition("!!1=1", true);
    condition("10-3-2=5", true);
    condition("2+3*4=14", true);
    condition("[2+3]*4=20", true);
    condition("100/7*7=98", true);
    condition("100/[7*7]=2", true);
    condition("17%5*2=4", true);
    condition("[0-7]/2=0-3", true);
    condition("[0-7]%2=0-1", true);
    condition("7/[0-2]=0-3", true);
    condition("1/0=0", false);
    condition("!1/0=0", false);
    condition("!(1/0=0)", false);
    condition("1%0=0", false);
    condition("1=1|1/0=0", true);
    condition("1/0=0|1=1", false);
    condition("1=2|1/0=0|1=1", false);
    condition("!(1=2&1/0=0)", true);
    condition("1=2&1/0=0|1=1", true);
    condition("0*[1/0]=0", false);
    condition("9999999*9999999*9999999%1000000=212735", true);
    condition("9999999*9999999*9999999/1000000/1000000=3875520", true);
    condition("2097152*2097152*2097152<0", true);
    condition("2097152*2097152*2097152/[0-1]<0", true);
    condition("2097152*2097152*2097152%[0-1]=0", true);
    condition("2097152*2097152*2097152*2=0", true);
    RowAuditor x = Tell.withHouses(0, 0);
    x.row(2, 1, 0, 0, 0, 7, 3, NONE, NONE);
    x.row(3, 1, NONE, 0, 0, 7, 3, NONE, NONE);
    Due.is(10, "a move", Due.meets(x, "k=2&o=1&e=0&p=0-1&v=0-1&q=0-1&t=0&n=2&a=0", 0, 0), true);
    Due.is(10, "a guess", Due.meets(x, "k=3&o=1&e=0-1&p=0-1&t=0&n=2", 1, 0), true);
  }

  private static void clear() {
    RowAuditor x = Tell.withHouses(0);
    Tell.pay(x, 0, 0, 0, 1, 0);
    Tell.pay(x, 0, 0, 0, 1, 0);
    Due.rule(x, "r(k=1)");
    x.now(3);
    Due.is(11, "no such row", x.clear(2, 0), false);
    Due.is(11, "no such row", x.clear(-1, 0), false);
    Due.is(11, "no such hand", x.clear(0, 16), false);
    Due.is(11, "no such hand", x.clear(0, -1), false);
    Due.is(11, "not cleared", x.look(0, 10), NONE);
    Due.is(11, "clear", x.clear(0, 15), true);
    Due.is(11, "once", x.clear(0, 1), false);
    Due.is(11, "on the day", x.look(0, 10), 3);
    Due.is(11, "from then on", x.findings(3), 1);
    Due.is(11, "before", x.findings(2), 2);
    Due.is(11, "it is broken still", x.broken(0, 3), 0);
  }

  private static void findings() {
    RowAuditor x = Tell.withHouses(0);
    x.now(1);
    x.row(1, 0, 0, 1, 5, 10, 0, NONE, NONE);
    x.row(1, 0, 0, 1, 4, 10, 1, NONE, NONE);
    x.row(1, 0, 0, 0, 9, 10, 0, NONE, NONE);
    Due.rule(x, "r(w=0);r(n>1)");
    Due.is(12, "findings", x.findings(1), 2);
    Due.is(13, "first in order", x.finding(1, 0), 2);
    Due.is(13, "then", x.finding(1, 1), 0);
    Due.is(13, "none", x.finding(1, 2), NONE);
    Due.is(13, "none", x.finding(1, -1), NONE);
    Due.is(13, "none", x.finding(1, MOST), NONE);
    Due.is(13, "no such day", x.finding(4000, 0), NONE);
    Due.is(13, "no such day", x.finding(-1, 0), NONE);
    Due.is(12, "none was told then", x.findings(0), 0);
    Due.is(12, "no such day", x.findings(4000), NONE);
    Due.is(12, "no such day", x.findings(-1), NONE);
    x.now(2);
    x.row(1, 0, 0, 1, 4, 10, 1, NONE, NONE);
    Due.is(12, "a row more makes another one odd", x.findings(2), 4);
    Due.is(12, "but not as it was known then", x.findings(1), 2);
    x.mend(0, 0);
    Due.is(12, "taken out", x.findings(2), 3);
  }

  private static void parted() {
    RowAuditor x = Tell.withHouses(0);
    int[] sums = {10, 20, 30, 30, 40, 5};
    for (int sum : sums) {
      Tell.pay(x, 0, 0, 0, sum, 0);
    }
    Due.is(14, "just it", Due.parted(x, 135, 0, 1, 2, 3, 4, 5), 0);
    Due.is(14, "one", Due.parted(x, 125, 0, 1, 2, 3, 4, 5), 1);
    Due.is(14, "the least of two", Due.parted(x, 105, 0, 1, 2, 3, 4, 5), 4);
    Due.is(14, "fewest", Due.parted(x, 95, 0, 1, 2, 3, 4, 5), 16);
    Due.is(14, "least set of fewest", Due.parted(x, 85, 0, 1, 2, 3, 4, 5), 6);
    Due.is(14, "bits by places", Due.parted(x, 85, 5, 4, 3, 2, 1, 0), 20);
    Due.is(14, "all", Due.parted(x, 0, 0, 1, 2), 7);
    Due.is(14, "none makes it", Due.parted(x, 134, 0, 1, 2, 3, 4, 5), -2);
    Due.is(14, "theirs is less", Due.parted(x, 136, 0, 1, 2, 3, 4, 5), -2);
    Due.is(14, "twice", Due.parted(x, 10, 0, 0), -3);
    Due.is(14, "twice goes before less", Due.parted(x, 10000, 0, 0), -3);
    Due.is(14, "no such row", Due.parted(x, 10, 0, 6), -3);
    Due.is(14, "no such row", Due.parted(x, 10, 255), -3);
    x.mend(1, 0);
    Due.is(14, "not known", Due.parted(x, 10, 0, 1), -3);
    x.mend(0, 11);
    Due.is(14, "as known now", Due.parted(x, 30, 0, 2), 1);
    Due.is(14, "empty then", x.count(8), 0);
    Due.feed(x, "\2");
    int[][] wrong = {{-1, 1}, {12000001, 1}, {0, 0}, {0, 13}, {0, -1}, {0, LEAST}};
    for (int[] a : wrong) {
      Due.is(14, "parted" + java.util.Arrays.toString(a), x.parted(a[0], a[1]), NONE);
      Due.is(14, "the tape stays", x.count(8), 20);
    }
    Due.is(14, "most", x.parted(12000000, 1), -2);
    Due.is(14, "not so many", x.parted(0, 1), NONE);
  }

  private static void followed() {
    RowAuditor x = Tell.withHouses(10, 4, 0);
    Due.is(15, "all at home", x.followed(0, 0, false), 10);
    Due.is(15, "none elsewhere", x.followed(0, 1, true), 0);
    Tell.move(x, 0, 1, 0, 6);
    Due.is(15, "those that went", x.followed(0, 1, true), 6);
    Due.is(15, "surely", x.followed(0, 1, false), 6);
    Tell.pay(x, 1, 0, 0, 5, 0);
    Due.is(15, "its own may have gone out", x.followed(0, 1, true), 5);
    Due.is(15, "or the others", x.followed(0, 1, false), 1);
    Due.is(15, "of its own", x.followed(1, 1, true), 4);
    Due.is(15, "of its own", x.followed(1, 1, false), 0);
    Tell.move(x, 1, 2, 0, 9);
    Due.is(15, "what is lacking comes from outside", x.followed(0, 2, true), 5);
    Due.is(15, "what is lacking comes from outside", x.followed(0, 2, false), 1);
    Due.is(15, "it has none then", x.followed(0, 1, true), 0);
    Tell.sale(x, 1, 0, 0, 3, 0);
    Due.is(15, "nobody gives that back", x.followed(0, 1, true), 0);
    Tell.move(x, 2, 0, 0, 8);
    Due.is(15, "round and back", x.followed(0, 0, true), 9);
    Due.is(15, "at least", x.followed(0, 0, false), 4);
    Due.is(15, "left", x.followed(0, 2, true), 1);
    x.mend(0, 0);
    Due.is(15, "as known now", x.followed(0, 0, true), 10);
    Due.is(15, "as known now", x.followed(0, 2, true), 0);
    Due.is(15, "no such house", x.followed(3, 0, true), NONE);
    Due.is(15, "no such house", x.followed(0, 3, true), NONE);
    Due.is(15, "no such house", x.followed(-1, 0, false), NONE);
    Due.is(15, "no such house", x.followed(0, -1, false), NONE);
  }

  private static void rounds() {
    RowAuditor x = Tell.withHouses(0, 0, 0);
    x.now(9);
    x.row(2, 0, 1, 1, 0, 100, 0, NONE, NONE);
    x.row(2, 1, 0, 4, 0, 90, 0, NONE, NONE);
    Due.is(16, "there and back", x.rounds(3, 10), 1);
    Due.is(16, "too few days", x.rounds(2, 10), 0);
    Due.is(16, "too far", x.rounds(3, 9), 0);
    x.row(2, 1, 2, 2, 0, 110, 0, NONE, NONE);
    x.row(2, 2, 0, 2, 1, 105, 0, NONE, NONE);
    Due.is(16, "by a third house, too", x.rounds(3, 10), 2);
    Due.is(16, "within one day", x.rounds(1, 10), 1);
    x.row(2, 2, 0, 2, 1, 105, 0, NONE, NONE);
    Due.is(16, "two ways home", x.rounds(1, 10), 2);
    x.row(2, 0, 1, 9, 0, 105, 0, NONE, NONE);
    Due.is(16, "begun at house 1 and 2, too", x.rounds(3999, 100), 6);
    x.mend(5, 0);
    Due.is(16, "as known now", x.rounds(3999, 100), 3);
    Due.is(16, "no such days", x.rounds(-1, 0), NONE);
    Due.is(16, "no such days", x.rounds(4000, 0), NONE);
    Due.is(16, "no such hundredths", x.rounds(0, -1), NONE);
    Due.is(16, "no such hundredths", x.rounds(0, 101), NONE);
    RowAuditor y = Tell.withHouses(0, 0, 0, 0, 0, 0, 0);
    for (int h = 0; h < 6; h++) {
      Tell.move(y, h, (h + 1) % 6, 0, 10);
    }
    Due.is(16, "six moves", y.rounds(0, 0), 1);
    RowAuditor z = Tell.withHouses(0, 0, 0, 0, 0, 0, 0);
    for (int h = 0; h < 7; h++) {
      Tell.move(z, h, (h + 1) % 7, 0, 10);
    }
    Due.is(16, "not seven", z.rounds(0, 0), 0);
    RowAuditor eight = Tell.withHouses(0, 0, 0);
    Tell.move(eight, 0, 1, 0, 10);
    Tell.move(eight, 1, 2, 0, 10);
    Tell.move(eight, 2, 1, 0, 10);
    Tell.move(eight, 1, 0, 0, 10);
    Due.is(16, "none into a house twice", eight.rounds(0, 0), 2);
    RowAuditor many = Tell.withHouses(0, 0, 0);
    for (int k = 0; k < 150; k++) {
      Tell.move(many, k / 50, (k / 50 + 1) % 3, 0, 10);
    }
    Due.is(16, "100000 at most", many.rounds(0, 0), 100000);
  }

  private static void chainFault(String text, int due) {
    RowAuditor x = new RowAuditor();
    Due.is(17, text, Due.chain(x, text), due);
    Due.is(17, "chains by " + text, x.count(5), due == 0 ? 1 : 0);
    Due.is(17, "empty then", x.count(8), 0);
  }

  private static void chain() {
    chainFault("(k=1)", 0);
    chainFault("(k=1);(k=1)pwo;(k=2)owp;(k=3)", 0);
    chainFault("(k=1)p", -1005);
    chainFault("(k=1);", -1006);
    chainFault("(k=1);p", -1006);
    chainFault("(k=1);(k=1)pp", -6012);
    chainFault("(k=1);(k=1)pwop", -6014);
    chainFault("(k=1);(k=1)px", -1012);
    chainFault("(k=1);(k=1)p(", -1012);
    chainFault("r(k=1)", -1000);
    chainFault("x0.0", -1000);
    chainFault("(k=1)(k=1)", -1005);
    chainFault("(k=1);(k=1);(k=1);(k=1)", 0);
    chainFault("(k=1);(k=1);(k=1);(k=1);(", -4024);
    chainFault("(k=1);(k=1);(k=1);(k=1);", -1024);
    chainFault("(k=1);(k=1);(k=1);(k=1);x", -1024);
    chainFault("((((((k=1))))))", 0);
    chainFault("(((((((k=1)))))))", -5006);
    chainFault("(12345678=1)", -2008);
    RowAuditor x = new RowAuditor();
    Due.feed(x, "(k=1)");
    Due.is(17, "no such n", x.chain(0), NONE);
    Due.is(17, "no such n", x.chain(101), NONE);
    Due.is(17, "not so many", x.chain(21), NONE);
    Due.is(17, "the tape stays", x.count(8), 20);
    Due.is(17, "the first", x.chain(5), 0);
    for (int c = 1; c < 6; c++) {
      Due.is(17, "chain " + c, Due.chain(x, "(k=1)"), c);
    }
    Due.is(17, "a seventh", Due.chain(x, "(k=1)"), NONE);
    Due.is(17, "the tape stays", x.count(8), 20);
    StringBuilder longest = new StringBuilder("(1");
    while (longest.length() < 97) {
      longest.append("+1");
    }
    longest.setLength(96);
    longest.append("2=0)");
    Due.is(17, "100 bytes", longest.length(), 100);
    chainFault(longest.toString(), 0);
    RowAuditor y = new RowAuditor();
    Due.is(17, "101 bytes", Due.chain(y, longest.insert(1, '1').toString()), NONE);
    Due.is(17, "the tape stays", y.count(8), 120);
  }

  private static void fits() {
    RowAuditor x = Tell.withHouses(0, 0);
    x.now(9);
    x.row(1, 0, 3, 5, 0, 10, 1, NONE, NONE);
    x.row(1, 0, 3, 2, 0, 20, 1, NONE, NONE);
    x.row(1, 1, 3, 6, 0, 30, 2, NONE, NONE);
    x.row(1, 0, 4, 7, 0, 40, 1, NONE, NONE);
    x.row(2, 0, 1, 8, 0, 50, 1, NONE, NONE);
    x.row(3, 0, NONE, 9, 0, 60, 1, NONE, NONE);
    int pairs = Due.chain(x, "(k=1);(k=1)");
    Due.is(18, "pairs", x.fits(pairs, 3999, 0), 6);
    Due.is(19, "the least by numbers", x.fitted(pairs, 3999, 0, 0), 0);
    Due.is(19, "the least by numbers", x.fitted(pairs, 3999, 0, 1), 2);
    Due.is(18, "within days", x.fits(pairs, 1, 0), 2);
    Due.is(18, "within no day", x.fits(pairs, 0, 0), 0);
    Due.is(19, "none within no day", x.fitted(pairs, 0, 0, 0), NONE);
    Due.is(18, "of a sum", x.fits(pairs, 3999, 50), 4);
    Due.is(18, "of a sum", x.fits(pairs, 3999, 51), 2);
    Due.is(18, "of a sum", x.fits(pairs, 3999, 71), 0);
    Due.is(19, "the first of a sum", x.fitted(pairs, 3999, 51, 0), 1);
    Due.is(19, "the first of a sum", x.fitted(pairs, 3999, 51, 1), 3);
    Due.is(19, "the first of a sum", x.fitted(pairs, 3999, 41, 1), 3);
    Due.is(18, "by payee", x.fits(Due.chain(x, "(k=1);(k=1)p"), 3999, 0), 3);
    Due.is(18, "by hand", x.fits(Due.chain(x, "(k=1);(k=1)w"), 3999, 0), 3);
    Due.is(18, "by house", x.fits(Due.chain(x, "(k=1);(k>0)o"), 3999, 0), 9);
    Due.is(18, "by first row", x.fits(Due.chain(x, "(k=1);(k=1);(k=1)p"), 3999, 0), 1);
    int four = Due.chain(x, "(s>0);(s>0);(s>0);(s>0)");
    Due.is(18, "four", x.fits(four, 3999, 0), 15);
    int[] first = {0, 2, 3, 4};
    for (int k = 0; k < 4; k++) {
      Due.is(19, "step " + k, x.fitted(four, 3999, 0, k), first[k]);
    }
    Due.is(19, "no such step", x.fitted(four, 3999, 0, 4), NONE);
    Due.is(19, "no such step", x.fitted(four, 3999, 0, -1), NONE);
    Due.is(18, "the largest", x.fits(four, 3999, 180), 1);
    Due.is(18, "none", x.fits(four, 3999, 181), 0);
    int[][] wrong = {{-1, 0, 0}, {6, 0, 0}, {0, -1, 0}, {0, 4000, 0}, {0, 0, -1}, {0, 0, 4000001}};
    for (int[] a : wrong) {
      Due.is(18, "fits" + java.util.Arrays.toString(a), x.fits(a[0], a[1], a[2]), NONE);
      Due.is(19, "fitted" + java.util.Arrays.toString(a), x.fitted(a[0], a[1], a[2], 0), NONE);
    }
    x.mend(0, 0);
    Due.is(18, "as known now", x.fits(pairs, 3999, 0), 3);
    RowAuditor y = Tell.withHouses(0);
    for (int k = 0; k < 150; k++) {
      Tell.pay(y, 0, 0, 0, 1000000, 0);
    }
    int c = Due.chain(y, "(k=1);(k=1);(k=1);(k=1)");
    Due.is(18, "100000 at most", y.fits(c, 0, 4000000), 100000);
    Due.is(18, "two of 150", y.fits(Due.chain(y, "(k=1);(k=1)"), 0, 0), 11175);
  }

  private static void ways() {
    RowAuditor x = Tell.withHouses(0);
    for (int k = 0; k < 5; k++) {
      Tell.pay(x, 0, 0, 0, k < 3 ? 100 : 10, k < 2 ? 0 : 1);
    }
    Tell.sale(x, 0, 0, 0, 100, 0);
    Due.rule(x, 5, 6, "x0.0;l(s>0);r(s>50);r(s<50)");
    long[] due = {3, 10, 2, 2, 5, 3};
    for (int what = 0; what < 6; what++) {
      Due.is(20, "what " + what, x.ways(0, 1, 0, what), due[what]);
    }
    Due.is(20, "one or more", x.ways(1, 1, 0, 0), 10);
    Due.is(20, "a hand without rows", x.ways(2, 1, 0, 0), 1);
    Due.is(20, "a hand without rows", x.ways(2, 1, 0, 1), 1);
    Due.is(20, "no rows at all", x.ways(0, 3, 0, 1), 1);
    Due.is(21, "not above", x.odd(0, 1, 0, 300), 1);
    Due.is(21, "above", x.odd(0, 1, 0, 299), 0);
    Due.is(21, "always", x.odd(2, 1, 0, 1000), 1);
    Due.is(21, "never", x.odd(2, 1, 0, 0), 0);
    Due.rule(x, "l(s>50)");
    int[][] wrong = {{-1, 1, 0, 0}, {16, 1, 0, 0}, {0, -1, 0, 0}, {0, 4, 0, 0}, {0, 1, -1, 0}, {0, 1, 2, 0},
      {0, 1, 1, 0}, {0, 1, 0, -1}};
    for (int[] a : wrong) {
      Due.is(20, "ways" + java.util.Arrays.toString(a), x.ways(a[0], a[1], a[2], a[3]), NONE);
      Due.is(21, "odd" + java.util.Arrays.toString(a), x.odd(a[0], a[1], a[2], a[3]), NONE);
    }
    Due.is(20, "no such what", x.ways(0, 1, 0, 6), NONE);
    Due.is(21, "no such share", x.odd(0, 1, 0, 1001), NONE);
    x.mend(0, 0);
    Due.is(20, "as known now", x.ways(0, 1, 0, 4), 4);
    RowAuditor y = Tell.withHouses(0);
    Due.rule(y, "r(w=0)");
    for (int k = 0; k < 50; k++) {
      Tell.pay(y, 0, 0, 0, 1, k < 25 ? 0 : 1);
    }
    Due.is(20, "of fifty", y.ways(0, 1, 0, 1), 126410606437752L);
    Due.is(20, "one way", y.ways(0, 1, 0, 0), 1);
    Due.is(20, "all ways", y.ways(1, 1, 0, 0), 126410606437752L);
    Due.is(21, "odd", y.odd(0, 1, 0, 1), 1);
    Due.is(21, "nothing is as odd as that", y.odd(0, 1, 0, 0), 0);
    Due.is(21, "not odd", y.odd(1, 1, 0, 999), 0);
    Tell.pay(y, 0, 0, 0, 1, 0);
    Due.is(20, "more than fifty", y.ways(0, 1, 0, 4), NONE);
    Due.is(21, "more than fifty", y.odd(0, 1, 0, 1000), NONE);
    y.mend(50, 0);
    Due.is(20, "fifty again", y.ways(0, 1, 0, 4), 50);
  }

  private static void things() {
    RowAuditor x = Tell.withHouses(0);
    Due.is(22, "hand", x.things(15, false, (1 << 30) - 1), true);
    Due.is(22, "payee", x.things(19, true, 0), true);
    Due.is(22, "no such hand", x.things(16, false, 0), false);
    Due.is(22, "no such hand", x.things(-1, false, 0), false);
    Due.is(22, "no such payee", x.things(20, true, 0), false);
    Due.is(22, "no such payee", x.things(-1, true, 0), false);
    Due.is(22, "no such set", x.things(0, false, 1 << 30), false);
    Due.is(22, "no such set", x.things(0, false, -1), false);
    x.things(15, false, 0);
    Due.is(23, "oneself, with nothing", x.behind(15, false, 15, false), 1);
    Due.is(23, "nothing is not shared", x.behind(15, false, 19, true), 0);
    Due.is(23, "hand and payee of one number", x.behind(15, false, 15, true), 0);
    x.things(0, false, 1);
    x.things(1, true, 1 | 2);
    x.things(2, true, 2 | 4);
    x.things(3, false, 4 | 8);
    x.things(4, true, 8);
    x.things(5, true, 16);
    Due.is(23, "shared", x.behind(0, false, 1, true), 1);
    Due.is(23, "by four others", x.behind(0, false, 4, true), 1);
    Due.is(23, "the other way round", x.behind(4, true, 0, false), 1);
    Due.is(23, "not that one", x.behind(0, false, 5, true), 0);
    int[][] wrong = {{-1, 0, 0, 0}, {16, 0, 0, 0}, {0, 0, 16, 0}, {20, 1, 0, 0}, {0, 0, 20, 1}, {0, 0, -1, 1}};
    for (int[] a : wrong) {
      Due.is(23, "behind", x.behind(a[0], a[1] == 1, a[2], a[3] == 1), NONE);
    }
    Due.is(23, "payee 16 is one", x.behind(16, true, 16, true), 1);
    Tell.pay(x, 0, 1, 0, 100, 9);
    Tell.pay(x, 0, 4, 0, 50, 9);
    Tell.pay(x, 0, 5, 0, 1000, 9);
    Tell.sale(x, 0, 2, 0, 200, 9);
    x.row(3, 0, NONE, 0, 0, 7, 0, NONE, NONE);
    Due.is(24, "grown", x.grown(0), -50);
    Due.is(24, "of one with it", x.grown(3), -50);
    Due.is(24, "of one with nobody", x.grown(9), 0);
    x.mend(0, 300);
    x.mend(1, 0);
    Due.is(24, "as known now", x.grown(0), 100);
    Due.is(24, "no such hand", x.grown(16), NO_SUM);
    Due.is(24, "no such hand", x.grown(-1), NO_SUM);
    x.things(2, true, 0);
    Due.is(24, "no more of one", x.grown(0), 300);
  }

  private static void sample() {
    RowAuditor x = Tell.withHouses(0);
    Due.is(25, "no row", x.sample(1, 0, 0), NONE);
    x.row(1, 0, 0, 0, 5, 300, 0, NONE, NONE);
    x.row(1, 0, 0, 0, 4, 200, 1, NONE, NONE);
    x.row(1, 0, 0, 0, 3, 500, 0, NONE, NONE);
    Due.rule(x, "r(h=5)");
    // In THEIR ORDER: 500, 200, 300. From seed 0: X 13849, 48742, 31223, coins 211, 743, 476.
    Due.is(25, "one draw", x.sample(1, 0, 0), 1);
    Due.is(25, "the row", x.sample(1, 0, 10), 2);
    Due.is(25, "nothing wrong", x.sample(1, 0, 1), 0);
    Due.is(25, "upper bound", x.sample(1, 0, 2), 500);
    Due.is(25, "two draws", x.sample(2, 0, 11), 0);
    Due.is(25, "wrong", x.sample(2, 0, 1), 300);
    Due.is(25, "upper bound", x.sample(2, 0, 2), 500);
    Due.is(25, "drawn again counts once", x.sample(3, 0, 0), 2);
    Due.is(25, "none such", x.sample(3, 0, 12), NONE);
    Due.is(25, "all drawn at last", x.sample(50, 0, 0), 3);
    Due.is(25, "bounds meet", x.sample(50, 0, 2), 300);
    Due.is(25, "last coin", x.sample(1, 65535, 0), 1);
    int[][] wrong = {{0, 0, 0}, {51, 0, 0}, {1, -1, 0}, {1, 65536, 0}, {1, 0, -1}, {1, 0, 3}, {1, 0, 9}, {1, 0, 11},
      {1, 0, MOST}, {1, 0, LEAST}};
    for (int[] a : wrong) {
      Due.is(25, "sample" + java.util.Arrays.toString(a), x.sample(a[0], a[1], a[2]), NONE);
    }
    x.clear(0, 0);
    Due.is(25, "cleared", x.sample(2, 0, 1), 0);
    x.mend(2, 0);
    Due.is(25, "as known now", x.sample(1, 0, 10), 1);
  }

  private static void askings() {
    RowAuditor x = Tell.withHouses(0);
    Tell.pay(x, 0, 0, 0, 10, 0);
    x.now(5);
    int[][] wrong = {{-1, 0, 6}, {16, 0, 6}, {0, -1, 6}, {0, 1, 6}, {0, 0, 5}, {0, 0, 4}, {0, 0, 4000}};
    for (int[] a : wrong) {
      Due.is(26, "ask" + java.util.Arrays.toString(a), x.ask(a[0], a[1], a[2]), NONE);
    }
    Due.is(28, "none yet", x.asked(0), NONE);
    Due.is(26, "first", x.ask(0, 0, 6), 0);
    Due.is(26, "second", x.ask(15, 0, 3999), 1);
    Due.is(28, "open", x.asked(0), 0);
    x.now(6);
    Due.is(28, "open on its day", x.asked(0), 0);
    x.now(7);
    Due.is(28, "late", x.asked(0), 1);
    Due.is(28, "open", x.asked(1), 0);
    Due.is(27, "no such one", x.answer(2, 0), false);
    Due.is(27, "no such one", x.answer(-1, 0), false);
    Due.is(27, "no such sum", x.answer(0, -1), false);
    Due.is(27, "no such sum", x.answer(0, 1000001), false);
    Due.is(27, "late, but an answer", x.answer(0, 10), true);
    Due.is(27, "once", x.answer(0, 11), false);
    Due.is(28, "answered", x.asked(0), 3);
    Due.is(27, "another", x.answer(1, 0), true);
    Due.is(28, "denied", x.asked(1), 2);
    x.mend(0, 12);
    Due.is(28, "denied by the mended sum", x.asked(0), 2);
    x.mend(0, 10);
    Due.is(28, "answered again", x.asked(0), 3);
    x.mend(0, 0);
    Due.is(28, "not known", x.asked(0), 2);
    Due.is(28, "not known, though 0 is told", x.asked(1), 2);
    Due.is(28, "no such one", x.asked(2), NONE);
    Due.is(28, "no such one", x.asked(-1), NONE);
    for (int k = 2; k < 60; k++) {
      Due.is(26, "asking " + k, x.ask(0, 0, 8), k);
    }
    Due.is(26, "a 61st", x.ask(0, 0, 8), NONE);
    Due.is(26, "count", x.count(6), 60);
  }

  private static void ifFalse() {
    RowAuditor x = Tell.withHouses(0);
    for (int k = 0; k < 6; k++) {
      x.row(1, 0, 0, 0, 0, 10, 5, k % 3 == 2 ? NONE : k % 3, NONE);
    }
    Due.rule(x, "r(v<0)");
    Due.is(29, "findings", x.findings(0), 2);
    Due.is(29, "if false", x.ifFalse(0), 4);
    Due.is(29, "if false", x.ifFalse(1), 4);
    Due.is(29, "gave none", x.ifFalse(2), 2);
    Due.is(29, "nothing is changed", x.findings(0), 2);
    x.clear(0, 0);
    x.mend(3, 0);
    Due.is(29, "cleared, and taken out", x.ifFalse(0), 2);
    Due.is(29, "no such hand", x.ifFalse(16), NONE);
    Due.is(29, "no such hand", x.ifFalse(-1), NONE);
    Due.rule(x, "l(v<0)");
    Due.is(29, "a leave less can let a row", x.ifFalse(1), 0);
  }

  private static void putIn() {
    RowAuditor x = Tell.withHouses(0);
    for (int k = 0; k < 3; k++) {
      Tell.pay(x, 0, 0, 0, 10, k);
    }
    Due.rule(x, "r(w<2)");
    Due.is(30, "no such row", x.putIn(3), false);
    Due.is(30, "no such row", x.putIn(-1), false);
    Due.is(30, "put in", x.putIn(0), true);
    Due.is(30, "once", x.putIn(0), false);
    Due.is(30, "put in", x.putIn(2), true);
    Due.is(31, "how many", x.found(0), 2);
    Due.is(31, "found", x.found(1), 1);
    Due.is(31, "no such what", x.found(2), NONE);
    Due.is(31, "no such what", x.found(-1), NONE);
    x.mend(2, 0);
    Due.is(31, "known now", x.found(0), 1);
    x.clear(0, 0);
    Due.is(31, "cleared", x.found(1), 0);
    x.putIn(1);
    Due.is(31, "another", x.found(1), 1);
  }

  private static void readings() {
    RowAuditor x = new RowAuditor();
    int[][] wrong = {{0, 1, NONE}, {1001, 1, NONE}, {1, -1, NONE}, {1, 100001, NONE}, {1, 1, -2}, {1, 1, 0}};
    for (int[] a : wrong) {
      Due.is(32, "reading" + java.util.Arrays.toString(a), x.reading(a[0], a[1], a[2]), NONE);
    }
    Due.is(32, "first", x.reading(1000, 100000, NONE), 0);
    Due.is(32, "wants the first", x.reading(1, 50, 0), 1);
    Due.is(32, "wants itself", x.reading(1, 1, 2), NONE);
    Due.is(32, "free", x.reading(5, 50, NONE), 2);
    Due.is(33, "none", x.best(4), 0);
    Due.is(33, "one", x.best(5), 4);
    Due.is(33, "the first", x.best(1000), 1);
    Due.is(33, "of like worth fewer hours", x.best(1005), 3);
    Due.is(33, "all", x.best(1006), 7);
    Due.is(33, "most hours", x.best(10000), 7);
    Due.is(33, "no such hours", x.best(-1), NONE);
    Due.is(33, "no such hours", x.best(10001), NONE);
    Due.is(34, "worth", x.judge(7), 100100);
    Due.is(34, "wants the first", x.judge(6), -2);
    Due.is(34, "empty", x.judge(0), 0);
    Due.is(34, "no such set", x.judge(8), NONE);
    Due.is(34, "no such set", x.judge(-1), NONE);
    RowAuditor y = new RowAuditor();
    for (int k = 0; k < 9; k++) {
      Due.is(32, "reading " + k, y.reading(2, 3, k == 8 ? 7 : NONE), k);
    }
    Due.is(32, "a tenth", y.reading(1, 1, NONE), NONE);
    Due.is(33, "the least of like ones", y.best(5), 3);
    Due.is(33, "all", y.best(18), 511);
    Due.is(33, "worth nothing, costs something", y.best(1), 0);
    Due.is(34, "all", y.judge(511), 27);
    Due.is(34, "no such set", y.judge(512), NONE);
    RowAuditor z = new RowAuditor();
    z.reading(1, 0, NONE);
    Due.is(33, "not done for nothing", z.best(10), 0);
  }

  private static void look() {
    RowAuditor x = Tell.withHouses(0, 0, 0);
    x.now(8);
    x.row(2, 2, 1, 7, 22, 333, 4, 5, 66);
    x.row(3, 1, NONE, 0, 0, 1, 0, NONE, NONE);
    int[] due = {2, 2, 1, 7, 22, 333, 4, 5, 66, 8, NONE};
    for (int what = 0; what < 11; what++) {
      Due.is(35, "what " + what, x.look(0, what), due[what]);
    }
    Due.is(35, "a guess has no other", x.look(1, 2), NONE);
    Due.is(35, "no leave", x.look(1, 7), NONE);
    x.mend(0, 0);
    Due.is(35, "as it was told", x.look(0, 5), 333);
    x.now(9);
    x.clear(0, 1);
    Due.is(35, "cleared", x.look(0, 10), 9);
    Due.is(35, "told", x.look(0, 9), 8);
    int[][] wrong = {{0, -1}, {0, 11}, {2, 0}, {-1, 0}, {LEAST, LEAST}, {MOST, MOST}};
    for (int[] a : wrong) {
      Due.is(35, "look" + java.util.Arrays.toString(a), x.look(a[0], a[1]), NONE);
    }
  }

  private static void count() {
    RowAuditor x = Tell.withHouses(1, 2);
    x.now(3);
    for (int k = 0; k < 5; k++) {
      Tell.pay(x, 0, 0, 0, 10, 0);
    }
    Due.rule(x, "r(k=1);x0.0;l(k=2)");
    Due.rule(x, "r(k=1)");
    x.mend(0, 1);
    x.mend(0, 2);
    x.mend(0, 3);
    Due.chain(x, "(k=1);(k=2)");
    for (int k = 0; k < 4; k++) {
      x.ask(0, 0, 9);
    }
    for (int k = 0; k < 6; k++) {
      x.reading(1, 1, NONE);
    }
    x.feed(0, 0, 0, 0, 0);
    int[] due = {3, 2, 5, 2, 3, 1, 4, 6, 20};
    for (int what = 0; what < 9; what++) {
      Due.is(36, "what " + what, x.count(what), due[what]);
    }
    Due.is(36, "clauses", x.count(20), 3);
    Due.is(36, "clauses", x.count(21), 1);
    Due.is(36, "no such rule", x.count(22), NONE);
    Due.is(36, "no such rule", x.count(39), NONE);
    Due.is(36, "steps", x.count(40), 2);
    Due.is(36, "no such chain", x.count(41), NONE);
    int[] wrong = {-1, 9, 10, 19, 45, 46, 100, LEAST, MOST};
    for (int what : wrong) {
      Due.is(36, "what " + what, x.count(what), NONE);
    }
  }
}
