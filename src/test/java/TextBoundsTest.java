import java.util.ArrayList;
import java.util.List;

/** Texts of RULES and CHAINS at their bounds: each FAULT at its place, and what a C is where numbers end. */
public final class TextBoundsTest {
  private static final String LETTERS = "ksdhwvoepqant";
  private static final String DIGITS = "0123456789";
  private static final String FACTOR = LETTERS + DIGITS + "[";
  private static final String PIECE = FACTOR + "(!";
  private static final String SIGNS = "+-*/%";
  private static final String COMPARED = SIGNS + "<>=";
  private static final String JOINED = SIGNS + "&|";
  private static final int DAYS = 3999;

  private TextBoundsTest() { }

  public static void main(String[] args) {
    whatCanStandInARule();
    whatCanStandInAChain();
    noBlanks();
    endings();
    eighthDigits();
    numbersOfClauses();
    eleventhClause();
    fifthStep();
    sixOpen();
    closedAgain();
    lettersTwice();
    firstFromTheLeft();
    onlyTheFirstBytes();
    faultsChangeNothing();
    lettersAtTheirBounds();
    numbersAtTheirBounds();
    wrapAround();
    dividedByNothing();
    Due.end();
  }

  // ---- what is asked ----

  private static long answer(boolean isChain, String text) {
    RowAuditor x = new RowAuditor();
    long answer = isChain ? Due.chain(x, text) : Due.rule(x, text);
    Due.is(isChain ? 17 : 9, "empty then: " + text, x.count(8), 0);
    Due.is(isChain ? 17 : 9, "told: " + text, x.count(isChain ? 5 : 3), answer < 0 ? 0 : 1);
    return answer;
  }

  private static void rule(String text, long due) {
    Due.is(9, text, answer(false, text), due);
  }

  private static void chain(String text, long due) {
    Due.is(17, text, answer(true, text), due);
  }

  private static String repeated(String part, int times, String between) {
    StringBuilder b = new StringBuilder();
    for (int k = 0; k < times; k++) {
      b.append(k == 0 ? "" : between).append(part);
    }
    return b.toString();
  }

  // ---- FAULT 1: "what can't stand there (the end, too)" ----

  /**
   * Each of the 256 bytes behind a start: with one of goesOn it is the end that can't stand behind it, with one of ends
   * the text is whole, and any other one can't stand there. What another FAULT answers is left out.
   */
  private static void after(boolean isChain, String start, String goesOn, String ends, String leftOut) {
    for (char sign = 0; sign <= 255; sign++) {
      if (leftOut.indexOf(sign) < 0) {
        String text = start + sign;
        int place = goesOn.indexOf(sign) >= 0 ? text.length() : start.length();
        long due = ends.indexOf(sign) >= 0 ? 0 : -1000 - place;
        Due.is(isChain ? 17 : 9, "byte " + (int) sign + " behind " + start, answer(isChain, text), due);
      }
    }
  }

  private static void whatCanStandInARule() {
    String[] clauseStarts = {"", "r(k=k);", "l(1=1);", "x0.0;", "r(k=k);x1.1;"};
    for (String start : clauseStarts) {
      after(false, start, "rlx", "", "");
      after(false, start + "r", "(", "", "");
      after(false, start + "l", "(", "", "");
      after(false, start + "x", DIGITS, "", "");
      after(false, start + "x0", "." + DIGITS, "", "");
      after(false, start + "x1", "." + DIGITS, "", "");
      after(false, start + "x9", ".", "", DIGITS);
      after(false, start + "x19.", "", DIGITS, "");
      after(false, start + "x19.0", ";", DIGITS, "");
      after(false, start + "x19.9", ";", "", DIGITS);
    }
    String[] pieceStarts = {"r(", "l(", "r(!", "r(!!", "r((", "r(!(", "r((!", "r(k=k&", "r(k=k|", "r((k=k)&", "r(!k=k|",
      "r((k=k&", "x0.0;l("};
    for (String start : pieceStarts) {
      after(false, start, PIECE, "", "");
      after(false, start + "k", COMPARED, "", "");
      after(false, start + "7", COMPARED + DIGITS, "", "");
      after(false, start + "[k]", COMPARED, "", "");
    }
    String[] factorStarts = {"r(k<", "r(k>", "r(k=", "r(k+", "r(7-", "r(k*", "r(7/", "r(k%", "r([", "r([[", "r([k+",
      "r(k=[", "r(k=k+", "r(!k=[k*", "r([k]%"};
    for (String start : factorStarts) {
      after(false, start, FACTOR, "", "");
    }
    for (String start : new String[] {"r([", "r([k+", "r(k=[", "r(k=[7%", "r(!["}) {
      after(false, start + "k", SIGNS + "]", "", "");
      after(false, start + "7", SIGNS + "]" + DIGITS, "", "");
      after(false, start + "[t]", SIGNS + "]", "", "");
    }
    for (String start : new String[] {"r(k=", "r(!k<", "l(k>1+", "r(k=k&k=k*", "r(k=1|k=[k]-"}) {
      after(false, start + "k", JOINED, ")", "");
      after(false, start + "7", JOINED + DIGITS, ")", "");
      after(false, start + "[k]", JOINED, ")", "");
    }
    after(false, "r((k=k", JOINED + ")", "", "");
    after(false, "r(!(k=k", JOINED + ")", "", "");
    for (String whole : new String[] {"r((k=k)", "r(!(k=k)", "r(k=k&(k=k|k=k)", "r(k=k|!!(k=k)"}) {
      after(false, whole, "&|", ")", "");
    }
    for (String whole : new String[] {"r(k=k)", "l((k=k))", "x0.0;r(k=k)"}) {
      after(false, whole, ";", "", "");
    }
  }

  private static void whatCanStandInAChain() {
    for (String start : new String[] {"", "(k=k);", "(k=k);(k=k)p;", "(k=k);(k=k)wop;(1=1);"}) {
      after(true, start, "(", "", "");
      after(true, start + "(", PIECE, "", "");
      after(true, start + "(k", COMPARED, "", "");
      after(true, start + "(k=", FACTOR, "", "");
      after(true, start + "(k=k", JOINED, ")", "");
      after(true, start + "((k=k)", "&|", ")", "");
    }
    after(true, "(k=k)", ";", "", "");
    after(true, "(k=k);(k=k)", ";", "pwo", "");
    after(true, "(k=k);(k=k)p", ";", "wo", "p");
    after(true, "(k=k);(k=k)w", ";", "po", "w");
    after(true, "(k=k);(k=k)op", ";", "w", "op");
    after(true, "(k=k);(k=k)pwo", ";", "", "pwo");
    after(true, "(k=k);(k=k);(k=k)", ";", "pwo", "");
    after(true, "(k=k);(k=k);(k=k);(k=k)", ";", "pwo", "");
  }

  /** "no blanks": a blank can stand at no place. */
  private static void noBlanks() {
    String rule = "r(!k=1&(s>[2+3]*4|d<5));l(h=7);x1.1";
    String steps = "(k=1);(!k=[2])pw;(s>1)o";
    for (int p = 0; p <= rule.length(); p++) {
      rule(rule.substring(0, p) + " " + rule.substring(p), -1000 - p);
    }
    for (int p = 0; p <= steps.length(); p++) {
      chain(steps.substring(0, p) + " " + steps.substring(p), -1000 - p);
    }
  }

  /** The end can't stand where the text isn't whole: each cut of a text. */
  private static void endings() {
    cuts(false, "r(!k=1&(s>[2+3]*4|d<5));l(h=7);x1.1", 23, 30);
    cuts(false, "x19.9;x00.00;r(w=v)", 5, 11, 12);
    cuts(false, "l(((k=[[1]])))", 14);
    cuts(true, "(k=1);(!k=[2])pw;(s>1)o", 5, 14, 15, 16, 22);
    cuts(true, "(1=1);(1=1);(1=1);(1=1)pow", 5, 11, 17, 23, 24, 25);
  }

  private static void cuts(boolean isChain, String text, int... wholes) {
    List<Integer> whole = new ArrayList<>();
    for (int n : wholes) {
      whole.add(n);
    }
    whole.add(text.length());
    for (int n = 1; n <= text.length(); n++) {
      long due = whole.contains(n) ? 0 : -1000 - n;
      Due.is(isChain ? 17 : 9, n + " bytes of " + text, answer(isChain, text.substring(0, n)), due);
    }
  }

  // ---- FAULT 2: "an eighth digit, at it" ----

  private static void eighthDigits() {
    String[] starts = {"r(", "r(k=", "r(k<", "r([", "r(!", "r(k=1&", "r(k+", "r(k=1*", "r(k=[", "x0.0;l("};
    for (String start : starts) {
      String end = start.endsWith("[") ? "]" : "";
      boolean isLeft = !(start.contains("k=") || start.contains("k<")) || start.endsWith("&");
      for (String seven : new String[] {"1234567", "9999999", "0000000", "0000001"}) {
        rule(start + seven + end + (isLeft ? "=1)" : ")"), 0);
        rule(start + seven + "8" + end + (isLeft ? "=1)" : ")"), -2000 - start.length() - 7);
        rule(start + seven + "0", -2000 - start.length() - 7);
        rule(start + seven + "89", -2000 - start.length() - 7);
      }
    }
    rule("x0000019.0000009", 0);
    rule("x00000019.0", -2008);
    rule("x0.00000009", -2010);
    rule("x99999999.0", -2008);
    rule("x0000019.00000009", -2016);
    // Seven digits that are no I end before the eighth that isn't there.
    rule("x9999999.0", -3001);
    chain("(1234567=1)", 0);
    chain("(12345678=1)", -2008);
    chain("(k=1);(k=12345678)", -2016);
  }

  // ---- FAULT 3: "an I or J that it can't be, at its first digit (asked when its digits end)" ----

  private static void numbersOfClauses() {
    for (int i = 0; i <= 120; i++) {
      for (int j = 0; j <= 12; j++) {
        String text = "x" + i + "." + j;
        int dot = text.indexOf('.');
        rule(text, i > 19 ? -3001 : j > 9 ? -3001 - dot : 0);
      }
    }
    rule("x0000020.0", -3001);
    rule("x0.0000010", -3003);
    rule("x019.09", 0);
    rule("r(k=k);x20.0", -3008);
    rule("r(k=k);x19.10", -3011);
    // The digits end: at the end of the text, at what can't stand there, at the next sign.
    rule("x2", -1002);
    rule("x20", -3001);
    rule("x2x", -1002);
    rule("x20x", -3001);
    rule("x20;", -3001);
    rule("x20.", -3001);
    rule("x0.1x", -1004);
    rule("x0.10", -3003);
    rule("x0.10x", -3003);
    rule("x0.10;", -3003);
    rule("x0.99", -3003);
    rule("x20.10", -3001);
    // A FACTOR may be any number.
    rule("r(20=10)", 0);
  }

  // ---- FAULT 4: "an 11th CLAUSE, at its letter (if that can stand there)" ----

  private static void eleventhClause() {
    for (String clause : new String[] {"x0.0", "r(k=1)", "l(1=1)", "x19.9", "r(!1=1)"}) {
      String nine = repeated(clause, 9, ";");
      String ten = repeated(clause, 10, ";");
      int end = ten.length();
      rule(nine, 0);
      rule(nine + ";", -1000 - nine.length() - 1);
      rule(nine + ";r(k=k)", 0);
      rule(ten, 0);
      RowAuditor x = new RowAuditor();
      Due.rule(x, ten);
      Due.is(36, "CLAUSES of " + ten, x.count(20), 10);
      rule(ten + ";", -1000 - end - 1);
      for (char sign = 0; sign <= 255; sign++) {
        boolean isLetter = "rlx".indexOf(sign) >= 0;
        Due.is(9, "byte " + (int) sign + " behind ten", answer(false, ten + ";" + sign),
            (isLetter ? -4000 : -1000) - end - 1);
      }
      rule(ten + ";r(k=k)", -4000 - end - 1);
      rule(ten + ";l(((((((", -4000 - end - 1);
      rule(ten + ";x20.0", -4000 - end - 1);
      rule(ten + ";x0.0;x0.0", -4000 - end - 1);
      rule(ten + "r", -1000 - end);
    }
    // The tenth's own FAULT stands before.
    rule(repeated("x0.0", 9, ";") + ";x20.0;r(k=k)", -3046);
    rule(repeated("x0.0", 9, ";") + ";r(k;r(k=k)", -1048);
  }

  /** Of a CHAIN "4 a fifth STEP, at its (". */
  private static void fifthStep() {
    for (String letters : new String[] {"", "p", "owp"}) {
      String four = "(k=1)" + repeated(";(k=1)" + letters, 3, "");
      int end = four.length();
      chain(four, 0);
      RowAuditor x = new RowAuditor();
      Due.chain(x, four);
      Due.is(36, "STEPS of " + four, x.count(40), 4);
      chain(four + ";", -1000 - end - 1);
      for (char sign = 0; sign <= 255; sign++) {
        Due.is(17, "byte " + (int) sign + " behind four", answer(true, four + ";" + sign),
            (sign == '(' ? -4000 : -1000) - end - 1);
      }
      chain(four + ";(k=1)", -4000 - end - 1);
      chain(four + ";((((((((", -4000 - end - 1);
      chain(four + "(", -1000 - end);
    }
    chain("(k=1);(k=1);(k=1);(k;(k=1)", -1020);
    chain("(k=1);(k=1);(k=1)", 0);
  }

  // ---- FAULT 5: "a seventh of ( [ ! that are open in one another, at it" ----

  /** The ( of the CLAUSE counts, so five more may be open: any of ( and !, then any of [. */
  private static void sixOpen() {
    for (int brackets = 0; brackets <= 5; brackets++) {
      int others = 5 - brackets;
      for (int set = 0; set < 1 << others; set++) {
        StringBuilder b = new StringBuilder();
        for (int k = 0; k < others; k++) {
          b.append((set >> k & 1) == 0 ? '(' : '!');
        }
        String open = b.toString() + repeated("[", brackets, "");
        seventh("r(" + open, brackets > 0);
        String piece = whole(open, "k", "k");
        rule("r(" + piece + ")", 0);
        rule("l(" + whole(b.toString(), "k", open.substring(others) + "k" + repeated("]", brackets, "")) + ")", 0);
        // Those of a PIECE are closed behind it, so as many may be open again.
        rule("r(" + piece + "&" + piece + "|" + piece + ")", 0);
        rule("r(" + piece + ");r(" + piece + ")", 0);
        chain("(" + piece + ");(" + piece + ")", 0);
        stepSeventh("(" + open, brackets > 0);
        // Both sides of a comparison may have as many.
        String side = repeated("[", brackets, "") + "k" + repeated("]", brackets, "");
        rule("r(" + whole(b.toString(), side, side) + ")", 0);
        rule("r(" + whole(b.toString(), side + "+" + side, side) + ")", 0);
        String left = "r(" + b + side + "=";
        rule(left + repeated("[", brackets + 1, ""), -5000 - left.length() - brackets);
      }
    }
  }

  /** What is open behind six: a seventh that can stand there is 5, one that can't is 1. */
  private static void seventh(String six, boolean inBrackets) {
    int place = six.length();
    rule(six + "[", -5000 - place);
    rule(six + "(", (inBrackets ? -1000 : -5000) - place);
    rule(six + "!", (inBrackets ? -1000 : -5000) - place);
    rule(six + "[[[", -5000 - place);
    rule(six + "[k]=1", -5000 - place);
    rule(six + "k([", -1000 - place - 1);
  }

  private static void stepSeventh(String six, boolean inBrackets) {
    int place = six.length();
    chain(six + "[", -5000 - place);
    chain(six + "(", (inBrackets ? -1000 : -5000) - place);
    chain("(k=1);" + six + "[", -5006 - place);
  }

  /** A PIECE that begins with what is open, and ends with what closes it; its E and E between. */
  private static String whole(String open, String left, String right) {
    int brackets = open.length() - open.replace("[", "").length();
    int parentheses = open.length() - open.replace("(", "").length();
    return open + left + repeated("]", brackets, "") + "=" + right + repeated(")", parentheses, "");
  }

  /** "a ! is open till its PIECE ends": by & or | or ), and not by a FACTOR's end. */
  private static void closedAgain() {
    rule("r(" + repeated("!k=1", 20, "&") + ")", 0);
    rule("r(" + repeated("!k=1", 20, "|") + ")", 0);
    rule("r(" + repeated("(k=1)", 20, "|") + ")", 0);
    rule("r(" + repeated("[k]", 30, "+") + "=1)", 0);
    rule("r(!!!!!k=1&!!!!!k=1|!!!!!k=1)", 0);
    rule("r(!k=1&(((((k=1))))))", 0);
    rule("r(!k=1&((((((k=1)))))))", -5012);
    rule("r(!k=[[[[1]]]])", 0);
    rule("r(!k=[[[[[1]]]]])", -5009);
    rule("r(!k+[1]=[[[[1]]]])", 0);
    rule("r(![k]=[[[[[1]]]]])", -5011);
    rule("r(!(k=1)&[[[[[k]]]]]=1)", 0);
    rule("r(!(!(!k=1)|((k=1))))", 0);
    rule("r(!(!(!k=1)|(((k=1)))))", 0);
    rule("r(!(!(!k=1)|((((k=1))))))", -5015);
    rule("r(!(!(!k=1|((k=1)))))", -5012);
    rule("r(!(!(!k=1|(k=1))))", 0);
    rule("r(!(k=1|k=1)&(!!(!k=1)))", 0);
    rule("r(!(k=1|k=1)&(!!(!!k=1)))", -5018);
    rule("r((((((k=1)))))&(((((k=1))))))", 0);
    rule("r(([[[[k]]]]=1&[[[[k]]]]=1))", 0);
    rule("r(([[[[k]]]]=1&[[[[[k]]]]]=1))", -5019);
  }

  // ---- FAULT 6: "a letter a second time, at it" ----

  private static void lettersTwice() {
    String two = "(k=1);(k=1)";
    String[] onceEach = {"", "p", "w", "o", "pw", "wp", "po", "op", "wo", "ow", "pwo", "pow", "wpo", "wop", "opw",
      "owp"};
    for (String letters : onceEach) {
      chain(two + letters, 0);
      chain(two + letters + ";(k=1)" + letters, 0);
      for (int k = 0; k < letters.length(); k++) {
        int place = two.length() + letters.length();
        chain(two + letters + letters.charAt(k), -6000 - place);
        chain(two + letters + letters.charAt(k) + letters.charAt(k), -6000 - place);
        chain(two + letters + letters.charAt(k) + "x", -6000 - place);
        chain("(k=1);" + two + letters + letters.charAt(k), -6006 - place);
      }
    }
    // Behind the first STEP's C a letter can't stand at all.
    for (String letters : new String[] {"p", "w", "o", "pp", "pw"}) {
      chain("(k=1)" + letters, -1005);
      chain("(k=1)" + letters + ";(k=1)", -1005);
    }
  }

  // ---- "FAULTS, the first from the left" ----

  private static void firstFromTheLeft() {
    rule("y12345678", -1000);
    rule("r(12345678;", -2009);
    rule("r(y=12345678)", -1002);
    rule("x20.y", -3001);
    rule("x0.y;x20.0", -1003);
    rule("x20.12345678", -3001);
    rule("x0.12345678;x20.0", -2010);
    rule("r(((((((k=12345678", -5007);
    rule("r(k=12345678&((((((", -2011);
    rule("r(k=1&((((((k=12345678", -5011);
    rule(repeated("x0.0", 9, ";") + ";x0.10;x0.0", -3048);
    rule(repeated("x0.0", 10, ";") + ",x0.0", -1049);
    rule("r(k=1));x20.0", -1006);
    chain("(k=1);(k=1)pp;(y", -6012);
    chain("(k=1);(y)pp", -1007);
    chain("(k=1)p;(k=1)pp", -1005);
    chain("(((((((k=1);(k=1)pp", -5006);
    chain("(k=1);(k=1);(k=1);(k=1)pp;(k=1)", -6024);
    chain("(k=1);(k=1);(k=1);(k=1)px;(k=1)", -1024);
  }

  /** "by the first n bytes of the tape": what lies behind them says nothing, and is gone. */
  private static void onlyTheFirstBytes() {
    String[] behind = {"", ")", ";", "1", "p", "(", "\0\0", "=1);x20.0"};
    for (String rest : behind) {
      RowAuditor x = new RowAuditor();
      Due.feed(x, "r(k=k)" + rest);
      Due.is(9, "six bytes, then " + rest, x.rule(0, DAYS, 6), 0);
      Due.is(9, "empty then", x.count(8), 0);
      Due.feed(x, "r(k=k" + rest);
      Due.is(9, "five bytes, then " + rest, x.rule(0, DAYS, 5), -1005);
      Due.is(9, "empty then", x.count(8), 0);
      Due.feed(x, "(k=k);(k=k)" + rest);
      Due.is(17, "eleven bytes, then " + rest, x.chain(11), 0);
      Due.is(17, "empty then", x.count(8), 0);
      Due.feed(x, "x19.1" + rest);
      Due.is(9, "five bytes, then " + rest, x.rule(0, DAYS, 5), 1);
    }
    // An old text's bytes are no part of a shorter new one.
    RowAuditor x = new RowAuditor();
    Due.rule(x, "r(k=k);r(k=k);r(k=k)");
    Due.is(9, "a shorter one", Due.rule(x, "r(k=k);"), -1007);
    Due.is(9, "a shorter one", Due.rule(x, "r(k=k)"), 1);
    Due.is(36, "its CLAUSES", x.count(21), 1);
  }

  /** A FAULT tells no RULE and no CHAIN: the next one has the same number, and ROWS are as they were. */
  private static void faultsChangeNothing() {
    String[] faults = {"r(k=1);x20.0", "x0.0;r(k", "r(k=1);r(12345678=1)", "r(1=1);r(((((((k=1", "x0.0;y"};
    RowAuditor x = Tell.withHouses(0);
    Tell.pay(x, 0, 0, 0, 5, 0);
    Due.rule(x, "r(1=1)");
    for (String fault : faults) {
      Due.is(9, fault + " is a FAULT", Due.rule(x, fault) < -1, true);
      Due.is(10, "BY the one that is told", x.broken(0, 0), 0);
      Due.is(36, "RULES", x.count(3), 1);
      Due.is(36, "CLAUSES", x.count(20), 1);
      Due.is(36, "no CLAUSES", x.count(21), -1);
    }
    Due.is(9, "the next number", Due.rule(x, "l(1=1)"), 1);
    Due.chain(x, "(s=5)");
    for (String fault : new String[] {"(s=5);", "(s=5)p", "(s=5);(s=5)pp", "(12345678=1)", "(((((((s=5"}) {
      Due.is(17, fault + " is a FAULT", Due.chain(x, fault) < -1, true);
      Due.is(18, "the CHAIN that is told", x.fits(0, 0, 5), 1);
      Due.is(36, "CHAINS", x.count(5), 1);
      Due.is(36, "STEPS", x.count(40), 1);
      Due.is(36, "no STEPS", x.count(41), -1);
    }
    Due.is(17, "the next number", Due.chain(x, "(s=6)"), 1);
  }

  // ---- what a C is ----

  /** Each letter of a ROW has just this number: more and less than it don't hold. */
  private static void letters(RowAuditor x, int i, int t, String letters, long... numbers) {
    for (int k = 0; k < numbers.length; k++) {
      long n = numbers[k];
      String number = n < 0 ? "0-" + -n : n > 9999999 ? n / 1000 + "*1000" : "" + n;
      String c = letters.charAt(k) + "=" + number + "&!" + letters.charAt(k) + ">" + number;
      Due.is(10, "ROW " + i + ", " + c, Due.meets(x, c, i, t), true);
    }
  }

  private static void lettersAtTheirBounds() {
    RowAuditor x = new RowAuditor();
    for (int k = 0; k < 10; k++) {
      x.house(0);
    }
    x.row(0, 0, 0, 0, 0, 1, 0, -1, -1);
    letters(x, 0, 0, LETTERS, 0, 1, 0, 0, 0, -1, 0, -1, 0, -1, 0, 1, 1);
    RowAuditor last = new RowAuditor();
    for (int k = 0; k < 10; k++) {
      last.house(0);
    }
    last.now(DAYS);
    last.row(1, 9, 19, 0, 23, 1000000, 15, 14, 99);
    letters(last, 0, DAYS, LETTERS, 1, 1000000, 0, 23, 15, 14, 9, -1, 19, 99, DAYS, 1, 1000000);
    last.row(2, 9, 8, DAYS, 0, 1, 14, 15, 0);
    last.row(2, 8, 9, DAYS, 0, 1, 14, 0, 0);
    letters(last, 1, DAYS, "kdwvoep", 2, DAYS, 14, 15, 9, 8, -1);
    RowAuditor guess = new RowAuditor();
    guess.house(0);
    guess.house(0);
    guess.row(3, 1, -1, 0, 0, 1000000, 0, 15, 99);
    guess.row(2, 1, 0, 0, 0, 1000000, 1, -1, -1);
    letters(guess, 0, 0, LETTERS, 3, 1000000, 0, 0, 0, 15, 1, -1, -1, 99, 0, 1, 0);
    letters(guess, 1, 0, "et", 0, 0);
    RowAuditor full = new RowAuditor();
    full.house(0);
    for (int k = 0; k < 150; k++) {
      full.row(1, 0, 7, 0, k % 24, 1000000, 3, -1, -1);
    }
    letters(full, 149, 0, "nt", 150, 150000000);
    full.mend(0, 0);
    full.mend(1, 1000);
    full.mend(2, 2000);
    letters(full, 149, 0, "nt", 149, 147003000);
  }

  private static void holds(String c, boolean due) {
    RowAuditor x = Tell.withHouses(0);
    Tell.pay(x, 0, 0, 0, 5, 0);
    Due.is(10, c, Due.meets(x, c, 0, 0), due);
    Due.is(18, c, Due.chain(x, "(" + c + ")") == 0 && x.fits(0, 0, 0) == 1, due);
  }

  private static void numbersAtTheirBounds() {
    holds("9999999+1=1000000*10", true);
    holds("0000007=7", true);
    holds("0=0000000", true);
    holds("!1<2|!2>1|!1=1", false);
    holds("!1<1&!1>1&!1=2&!2<1&!1>2", true);
    holds("!!1<2&!!2>1&!!1=1", true);
    holds("0-1<0", true);
    holds("0-1>0", false);
    holds("0>0-1&0-1>0-2", true);
    holds("[0-7]/2=0-3", true);
    holds("[0-7]/[0-2]=3", true);
    holds("7/[0-2]=0-3", true);
    holds("[0-7]%2=0-1", true);
    holds("7%[0-2]=1", true);
    holds("[0-7]%[0-4]=0-3", true);
    holds("0-7/2=0-3", true);
    holds("0-7%4=0-3", true);
    holds("0/7=0&0%7=0", true);
    holds("6/7=0&7/7=1&6%7=6&7%7=0", true);
    holds("s-6=0-1", true);
    holds("s-6<0&s-5=0&s-4>0", true);
    holds("s<5|s>5", false);
    holds("!s<5&!s>5&s=5", true);
    holds("10-4-3=3&100/5/2=10&100%7*3=6&2*3%4=2", true);
    holds("10-[4-3]=9&100/[5/2]=50&2+3*4=14&[2+3]*4=20", true);
    holds("1=1|1=1&1=2", true);
    holds("[1]=[[1]]", true);
  }

  /** "All is reckoned with 64 bits, as the machine does". */
  private static void wrapAround() {
    // 2097152 is two to the 21st: the third power of it is the least number of all.
    String least = "2097152*2097152*2097152";
    holds(least + "<0", true);
    holds(least + "-1>0", true);
    holds(least + "-1+1=" + least, true);
    holds("0-" + least + "=" + least, true);
    holds(least + "+" + least + "=0", true);
    holds(least + "*2=0", true);
    holds(least + "*[0-1]=" + least, true);
    holds(least + "/[0-1]=" + least, true);
    holds(least + "%[0-1]=0", true);
    holds("[" + least + "-1]/[0-1]=" + least + "+1", true);
    holds(least + "<" + least + "-1", true);
    holds(least + ">" + least + "-1", false);
    holds(least + "/2097152/2097152=0-2097152", true);
    holds(least + "%9999999<0", true);
    holds("2097152*2097152*2097152*2097152=0", true);
    holds("2097152*2097152*1048576>0", true);
    holds("2097152*2097152*1048576*2<0", true);
    holds("2097152*2097152*1048576+2097152*2097152*1048576=" + least, true);
    // 9999999 cubed is 54 times two to the 64th and 3875520019714212735.
    holds("9999999*9999999*9999999/1000000/1000000=3875520", true);
    holds("9999999*9999999*9999999/1000000%1000000=19714", true);
    holds("9999999*9999999*9999999%1000000=212735", true);
    // No 32 bits, and no 53.
    holds("1000000*1000000/1000000=1000000", true);
    holds("9999999*9999999+1-9999999*9999999=1", true);
    holds("2097152*2097152*2097151+1-2097152*2097152*2097151=1", true);
  }

  /** "what is divided by 0 is REFUSED; then C does not hold. Of a C as much is asked, from the left, as matters." */
  private static void dividedByNothing() {
    for (String zero : new String[] {"1/0=1", "1%0=1", "0/0=0", "0%0=0", "1=1/0", "1=1%0", "1<s/[s-5]", "s/k/0>0",
      "[1/0]=[1/0]", "0*[1/0]=0", "1/0*0=0", "0/[0*7]=0", "1/[0/5]=0", "1/0/0=0", "1=1+1/0"}) {
      holds(zero, false);
      holds("!" + zero, false);
      holds("!!" + zero, false);
      holds("!(" + zero + ")", false);
      holds("1=1|" + zero, true);
      holds("1=2|" + zero, false);
      holds(zero + "|1=1", false);
      holds("(" + zero + ")|1=1", false);
      holds("1=2|" + zero + "|1=1", false);
      holds("1=2|1=1|" + zero, true);
      holds("1=1&" + zero, false);
      holds("1=2&" + zero, false);
      holds("1=2&" + zero + "|1=1", true);
      holds("1=1&" + zero + "|1=1", false);
      holds("!(1=2&" + zero + ")", true);
      holds("!(1=1&" + zero + ")", false);
      holds("!(1=1|" + zero + ")", false);
      holds("!!(1=1|" + zero + ")", true);
      holds("1=1&1=2&" + zero + "|1=1", true);
      holds("1=1&(1=2|1=1|" + zero + ")", true);
      holds("1=1&(1=2|" + zero + ")|1=1", false);
      holds("(1=1|" + zero + ")&1=2", false);
      holds("1=1&1=1|" + zero + "&1=1", true);
    }
    // Another CLAUSE, another STEP and another ROW are reckoned for themselves.
    RowAuditor x = Tell.withHouses(0);
    Tell.pay(x, 0, 0, 0, 5, 0);
    Tell.pay(x, 0, 1, 0, 6, 0);
    Due.rule(x, "r(1/p=1)");
    Due.is(10, "PAYEE 0", x.broken(0, 0), -2);
    Due.is(10, "PAYEE 1", x.broken(1, 0), 0);
    Due.rule(x, "r(1/0=1);r(p=0);l(1%0=0)");
    Due.is(10, "by its other r", x.broken(0, 0), 1);
    Due.is(18, "one STEP of two", x.fits(Due.chain(x, "(1/p=1|p=0);(1=1)"), 0, 0), 0);
    Due.is(18, "both STEPS", x.fits(Due.chain(x, "(p=0|1/p=1);(1/p=1)"), 0, 0), 1);
    Due.is(20, "MARKED", x.ways(0, 1, 0, 5), 1);
  }
}
