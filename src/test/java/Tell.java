/** Short ways to tell an object what many tests want told. */
final class Tell {
  private static final int NONE = -1;

  private Tell() { }

  static RowAuditor withHouses(int... sums) {
    RowAuditor x = new RowAuditor();
    for (int sum : sums) {
      x.house(sum);
    }
    return x;
  }

  static RowAuditor withHousesOn(int day, int... sums) {
    RowAuditor x = withHouses(sums);
    x.now(day);
    return x;
  }

  static int sale(RowAuditor x, int house, int payee, int day, int sum, int hand) {
    return x.row(0, house, payee, day, 12, sum, hand, NONE, NONE);
  }

  static int pay(RowAuditor x, int house, int payee, int day, int sum, int hand) {
    return x.row(1, house, payee, day, 12, sum, hand, NONE, NONE);
  }

  static int move(RowAuditor x, int from, int to, int day, int sum) {
    return x.row(2, from, to, day, 12, sum, 0, NONE, NONE);
  }

  static int guess(RowAuditor x, int house, int day, int sum, int hand) {
    return x.row(3, house, NONE, day, 12, sum, hand, NONE, NONE);
  }
}
