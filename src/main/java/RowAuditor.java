import java.util.ArrayList;
import java.util.Arrays;

/**
 * The quiet auditor: a firm's books row by row, held against rules as texts.
 *
 * <p>The words in capitals in the comments are the terms of the document.
 */
public final class RowAuditor {
    public static final int NONE = -1;

    private static final int NO_SUCH_SUM = -1000000000;
    private static final int NO_SET = -2;
    private static final int NOT_KNOWN = -3;
    private static final int UNBROKEN = -2;

    private static final int LAST_DAY = 3999;
    private static final int LAST_HOUR = 23;
    private static final int LAST_PAPER = 99;
    private static final int MOST_SUM = 1000000;
    private static final int MOST_COUNTED = 100000;

    private static final int HOUSES = 10;
    private static final int HANDS = 16;
    private static final int PAYEES = 20;
    private static final int OWNERS = HANDS + PAYEES;
    private static final int ALL_THINGS = (1 << 30) - 1;
    private static final int ROWS = 150;
    private static final int MENDINGS = 100;
    private static final int RULES = 20;
    private static final int CHAINS = 6;
    private static final int CLAUSES = 10;
    private static final int STEPS = 4;
    private static final int ASKINGS = 60;
    private static final int READINGS = 9;
    private static final int DRAWS = 50;
    private static final int TAPE = 200;
    private static final int FED_BYTES = 20;
    private static final int RULE_BYTES = 160;
    private static final int CHAIN_BYTES = 100;
    private static final int PARTED_ROWS = 12;
    private static final int PARTED_SUM = 12000000;
    private static final int ODD_ROWS = 50;

    // What is counted for ODD stands in the order in which ways() numbers it, from 2 on.
    private static final int OWN = 0;
    private static final int OWN_MARKED = 1;
    private static final int ALL = 2;
    private static final int ALL_MARKED = 3;

    private static final int SALE = 0;
    private static final int PAY = 1;
    private static final int MOVE = 2;
    private static final int GUESS = 3;

    // The cells of a ROW stand in the order in which look() numbers them.
    private static final int KIND = 0;
    private static final int HOUSE = 1;
    private static final int OTHER = 2;
    private static final int DAY = 3;
    private static final int HOUR = 4;
    private static final int SUM = 5;
    private static final int HAND = 6;
    private static final int LEAVE = 7;
    private static final int PAPER = 8;
    private static final int TOLD = 9;
    private static final int CLEARED = 10;
    private static final int WIDTH = 11;

    private static final int STEP_PAYEE = 1;
    private static final int STEP_HAND = 2;
    private static final int STEP_HOUSE = 4;

    private final Books books = new Books();
    private final View view = new View(books);
    private final Facts facts = new Facts(books, view);
    private final Laws laws = new Laws(books, view, facts);
    private final ArrayList<Text> chains = new ArrayList<>();
    private final Readings readings = new Readings();
    private final int[] tape = new int[TAPE];
    private int taped;
    private final int[] things = new int[OWNERS];
    private final boolean[] judged = new boolean[ROWS];
    private final int[] askedRows = new int[ASKINGS];
    private final int[] askedDays = new int[ASKINGS];
    private final int[] answers = new int[ASKINGS];
    private int askings;
    private final int[] drawn = new int[DRAWS];
    private final int[] dealt = new int[4];

    // Made once, here, for what a call makes is counted times all calls.
    private final Parser parser = new Parser(tape);
    private final Flow flow = new Flow(books, view);
    private final Rounder rounder = new Rounder(books, view);
    private final Fitter fitter = new Fitter(books, view, facts);

    public RowAuditor() {
    }

    public boolean now(int day) {
        if (!within(day, books.today, LAST_DAY)) {
            return false;
        }
        books.today = day;
        return true;
    }

    public int house(int sum) {
        if (!within(sum, 0, MOST_SUM) || books.houses >= HOUSES) {
            return NONE;
        }
        return books.addHouse(sum);
    }

    public int row(int kind, int house, int other, int day, int hour, int sum, int hand, int leave, int paper) {
        boolean stands = within(kind, SALE, GUESS) && books.isHouse(house) && isOther(kind, house, other)
            && within(day, 0, books.today) && within(hour, 0, LAST_HOUR) && within(sum, 1, MOST_SUM)
            && isHand(hand) && within(leave, NONE, HANDS - 1) && leave != hand && within(paper, NONE, LAST_PAPER);
        if (!stands || books.rows >= ROWS) {
            return NONE;
        }
        int[] cells = {kind, house, other, day, hour, sum, hand, leave, paper, books.today, NONE};
        return books.addRow(cells);
    }

    private boolean isOther(int kind, int house, int other) {
        if (kind == GUESS) {
            return other == NONE;
        }
        if (kind == MOVE) {
            return books.isHouse(other) && other != house;
        }
        return within(other, 0, PAYEES - 1);
    }

    public boolean mend(int i, int sum) {
        if (!books.isRow(i) || !within(sum, 0, MOST_SUM) || books.mendings >= MENDINGS) {
            return false;
        }
        view.asOf(books.today);
        if (!view.isKnown(i)) {
            return false;
        }
        books.addMending(i, sum);
        return true;
    }

    public int known(int i, int t, int what) {
        if (!isDay(t) || !within(what, 0, 1)) {
            return NONE;
        }
        view.asOf(t);
        if (!view.isKnown(i)) {
            return NONE;
        }
        return what == 0 ? view.sumOf(i) : view.placeOf(i);
    }

    public int holds(int house, int d, int t) {
        if (!books.isHouse(house) || !isDay(d) || !isDay(t)) {
            return NO_SUCH_SUM;
        }
        view.asOf(t);
        int sum = books.atFirst(house);
        for (int place = 0; place < view.size; place++) {
            int i = view.rowAt(place);
            if (books.cell(i, DAY) > d) {
                break;
            }
            sum += view.sumOf(i) * books.direction(i, house);
        }
        return sum;
    }

    public int feed(int a, int b, int c, int d, int e) {
        if (taped + FED_BYTES > TAPE) {
            return NONE;
        }
        append(a);
        append(b);
        append(c);
        append(d);
        append(e);
        return taped;
    }

    private void append(int word) {
        for (int shift = 24; shift >= 0 && taped < TAPE; shift -= 8) {
            tape[taped] = (word >>> shift) & 255;
            taped++;
        }
    }

    /** Whether the tape has as many bytes as a call asks for, and the call may ask for so many. */
    private boolean hasTaped(int n, int most) {
        return within(n, 1, most) && n <= taped;
    }

    public int rule(int from, int to, int n) {
        if (!isDay(from) || !isDay(to) || from > to || !hasTaped(n, RULE_BYTES) || laws.rules.size() >= RULES) {
            return NONE;
        }
        taped = 0;
        Text text = parser.ruleText(n, from, to);
        return parser.isFaulty() ? parser.faultAnswer() : keep(text, laws.rules);
    }

    private static int keep(Text text, ArrayList<Text> texts) {
        texts.add(text);
        return texts.size() - 1;
    }

    public int broken(int i, int t) {
        if (!isDay(t)) {
            return NONE;
        }
        view.asOf(t);
        return view.isKnown(i) ? laws.breaker(i) : NONE;
    }

    public boolean clear(int i, int hand) {
        if (!books.isRow(i) || !isHand(hand) || books.cell(i, CLEARED) != NONE) {
            return false;
        }
        books.setCleared(i);
        return true;
    }

    public int findings(int t) {
        if (!isDay(t)) {
            return NONE;
        }
        view.asOf(t);
        return laws.countFindings();
    }

    public int finding(int t, int k) {
        if (!isDay(t) || k < 0) {
            return NONE;
        }
        view.asOf(t);
        int before = 0;
        for (int place = 0; place < view.size; place++) {
            int i = view.rowAt(place);
            if (laws.isFinding(i)) {
                if (before == k) {
                    return i;
                }
                before++;
            }
        }
        return NONE;
    }

    public int parted(int sum, int n) {
        if (!within(sum, 0, PARTED_SUM) || !hasTaped(n, PARTED_ROWS)) {
            return NONE;
        }
        taped = 0;
        view.asOf(books.today);
        int all = 0;
        for (int k = 0; k < n && k < TAPE; k++) {
            if (!view.isKnown(tape[k]) || isTapedBefore(k)) {
                return NOT_KNOWN;
            }
            all += view.sumOf(tape[k]);
        }
        return all < sum ? NO_SET : fewestThatMake(all - sum, n);
    }

    private boolean isTapedBefore(int k) {
        for (int j = 0; j < k && k < TAPE; j++) {
            if (tape[j] == tape[k]) {
                return true;
            }
        }
        return false;
    }

    private int fewestThatMake(int sum, int n) {
        int best = NO_SET;
        int fewest = n + 1;
        for (int set = 0; set < 1 << n; set++) {
            if (Integer.bitCount(set) < fewest && tapedSum(set, n) == sum) {
                best = set;
                fewest = Integer.bitCount(set);
            }
        }
        return best;
    }

    private int tapedSum(int set, int n) {
        int sum = 0;
        for (int k = 0; k < n && k < TAPE; k++) {
            if (isIn(k, set)) {
                sum += view.sumOf(tape[k]);
            }
        }
        return sum;
    }

    public int followed(int a, int b, boolean most) {
        if (!books.isHouse(a) || !books.isHouse(b)) {
            return NONE;
        }
        view.asOf(books.today);
        return flow.coinsOf(a, b, most);
    }

    public int rounds(int days, int hundredths) {
        if (!isDay(days) || !within(hundredths, 0, 100)) {
            return NONE;
        }
        view.asOf(books.today);
        return rounder.countRounds(days, hundredths);
    }

    public int chain(int n) {
        if (!hasTaped(n, CHAIN_BYTES) || chains.size() >= CHAINS) {
            return NONE;
        }
        taped = 0;
        Text text = parser.chainText(n);
        return parser.isFaulty() ? parser.faultAnswer() : keep(text, chains);
    }

    public int fits(int c, int days, int sum) {
        Fitter ready = fitterFor(c, days, sum);
        return ready == null ? NONE : ready.countFitting(sum);
    }

    public int fitted(int c, int days, int sum, int i) {
        Fitter ready = fitterFor(c, days, sum);
        return ready == null ? NONE : ready.firstFitting(sum, i);
    }

    /** The fitter, ready for a CHAIN and so many DAYS; null where a number is none. */
    private Fitter fitterFor(int c, int days, int sum) {
        if (!within(c, 0, chains.size() - 1) || !isDay(days) || !within(sum, 0, STEPS * MOST_SUM)) {
            return null;
        }
        view.asOf(books.today);
        fitter.prepare(chains.get(c), days);
        return fitter;
    }

    public long ways(int hand, int kind, int r, int what) {
        if (!within(what, 0, 5) || !deal(hand, kind, r)) {
            return NONE;
        }
        switch (what) {
            case 0: return waysAsOdd();
            case 1: return choose(dealt[ALL], dealt[OWN]);
            default: return dealt[what - 2];
        }
    }

    public int odd(int hand, int kind, int r, int share) {
        if (!within(share, 0, 1000) || !deal(hand, kind, r)) {
            return NONE;
        }
        return waysAsOdd() * 1000 <= choose(dealt[ALL], dealt[OWN]) * share ? 1 : 0;
    }

    /** Counts a HAND's ROWS among all of a KIND; false where there is nothing to count by, or too much. */
    private boolean deal(int hand, int kind, int r) {
        if (!isHand(hand) || !within(kind, SALE, GUESS) || !within(r, 0, laws.rules.size() - 1)) {
            return false;
        }
        Clause marking = laws.rules.get(r).firstBreaking();
        if (marking == null) {
            return false;
        }
        view.asOf(books.today);
        Arrays.fill(dealt, 0);
        for (int place = 0; place < view.size; place++) {
            int i = view.rowAt(place);
            if (books.cell(i, KIND) == kind) {
                facts.face(i);
                dealOne(books.cell(i, HAND) == hand, facts.meets(marking.code));
            }
        }
        return dealt[ALL] <= ODD_ROWS;
    }

    private void dealOne(boolean isOwn, boolean isMarked) {
        dealt[ALL]++;
        dealt[OWN] += isOwn ? 1 : 0;
        dealt[ALL_MARKED] += isMarked ? 1 : 0;
        dealt[OWN_MARKED] += isOwn && isMarked ? 1 : 0;
    }

    private long waysAsOdd() {
        long sum = 0;
        int unmarked = dealt[ALL] - dealt[ALL_MARKED];
        for (int marked = dealt[OWN_MARKED]; marked <= dealt[OWN]; marked++) {
            sum += choose(dealt[ALL_MARKED], marked) * choose(unmarked, dealt[OWN] - marked);
        }
        return sum;
    }

    /** Each product of the loop can be divided, for what comes of it is a number of choices again. */
    private static long choose(int n, int k) {
        if (k > n) {
            return 0;
        }
        long choices = 1;
        for (int i = 1; i <= k; i++) {
            choices = choices * (n - k + i) / i;
        }
        return choices;
    }

    public boolean things(int k, boolean payee, int set) {
        int owner = ownerOf(k, payee);
        if (owner == NONE || !within(set, 0, ALL_THINGS)) {
            return false;
        }
        things[owner] = set;
        return true;
    }

    public int behind(int a, boolean payeeA, int b, boolean payeeB) {
        int one = ownerOf(a, payeeA);
        int two = ownerOf(b, payeeB);
        if (one == NONE || two == NONE) {
            return NONE;
        }
        return one == two || (thingsAround(one) & things[two]) != 0 ? 1 : 0;
    }

    public int grown(int k) {
        if (!isHand(k)) {
            return NO_SUCH_SUM;
        }
        int around = thingsAround(ownerOf(k, false));
        view.asOf(books.today);
        int sum = 0;
        for (int place = 0; place < view.size; place++) {
            int i = view.rowAt(place);
            int owner = ownerOf(books.payeeOf(i), true);
            if (owner != NONE && (things[owner] & around) != 0) {
                sum += books.cell(i, KIND) == PAY ? view.sumOf(i) : -view.sumOf(i);
            }
        }
        return sum;
    }

    /** HANDS stand first among those who own THINGS, PAYEES behind them. */
    private static int ownerOf(int k, boolean payee) {
        if (payee) {
            return within(k, 0, PAYEES - 1) ? HANDS + k : NONE;
        }
        return isHand(k) ? k : NONE;
    }

    /** The THINGS of all who are of one with an owner. */
    private int thingsAround(int owner) {
        int around = within(owner, 0, OWNERS - 1) ? things[owner] : 0;
        for (int turn = 0; turn < OWNERS; turn++) {
            int before = around;
            for (int set : things) {
                if ((set & around) != 0) {
                    around |= set;
                }
            }
            if (around == before) {
                break;
            }
        }
        return around;
    }

    public int sample(int n, int seed, int what) {
        if (!within(n, 1, DRAWS) || !within(seed, 0, 65535) || what < 0) {
            return NONE;
        }
        view.asOf(books.today);
        if (view.size == 0) {
            return NONE;
        }
        int size = draw(n, seed);
        switch (what) {
            case 0: return size;
            case 1: return drawnSum(size, true);
            case 2: return view.total() - drawnSum(size, false);
            default: return within(what - 10, 0, size - 1) ? drawn[what - 10] : NONE;
        }
    }

    private int draw(int n, int seed) {
        int size = 0;
        int x = seed;
        long total = view.total();
        for (int k = 0; k < n; k++) {
            x = (25173 * x + 13849) & 65535;
            int i = view.rowAtCoin(x * total / 65536);
            if (!isDrawn(i, size) && size < DRAWS) {
                drawn[size] = i;
                size++;
            }
        }
        return size;
    }

    private boolean isDrawn(int i, int size) {
        for (int k = 0; k < size && k < DRAWS; k++) {
            if (drawn[k] == i) {
                return true;
            }
        }
        return false;
    }

    private int drawnSum(int size, boolean wrong) {
        int sum = 0;
        for (int k = 0; k < size && k < DRAWS; k++) {
            if (laws.isFinding(drawn[k]) == wrong) {
                sum += view.sumOf(drawn[k]);
            }
        }
        return sum;
    }

    public int ask(int hand, int row, int day) {
        if (!isHand(hand) || !books.isRow(row) || !within(day, books.today + 1, LAST_DAY) || askings >= ASKINGS) {
            return NONE;
        }
        askedRows[askings] = row;
        askedDays[askings] = day;
        answers[askings] = NONE;
        askings++;
        return askings - 1;
    }

    public boolean answer(int k, int sum) {
        if (!isAsking(k) || !within(sum, 0, MOST_SUM) || answers[k] != NONE) {
            return false;
        }
        answers[k] = sum;
        return true;
    }

    public int asked(int k) {
        if (!isAsking(k)) {
            return NONE;
        }
        if (answers[k] == NONE) {
            return askedDays[k] < books.today ? 1 : 0;
        }
        view.asOf(books.today);
        return view.isKnown(askedRows[k]) && view.sumOf(askedRows[k]) == answers[k] ? 3 : 2;
    }

    private boolean isAsking(int k) {
        return within(k, 0, askings - 1) && k < ASKINGS;
    }

    public int ifFalse(int hand) {
        if (!isHand(hand)) {
            return NONE;
        }
        view.asOf(books.today);
        facts.unbelieved = hand;
        int size = laws.countFindings();
        facts.unbelieved = NONE;
        return size;
    }

    public boolean putIn(int i) {
        if (!books.isRow(i) || judged[i]) {
            return false;
        }
        judged[i] = true;
        return true;
    }

    public int found(int what) {
        if (!within(what, 0, 1)) {
            return NONE;
        }
        view.asOf(books.today);
        int size = 0;
        for (int place = 0; place < view.size; place++) {
            int i = view.rowAt(place);
            if (books.isRow(i) && judged[i] && (what == 0 || laws.isFinding(i))) {
                size++;
            }
        }
        return size;
    }

    public int reading(int hours, int worth, int wants) {
        boolean stands = within(hours, 1, 1000) && within(worth, 0, 100000) && within(wants, NONE, readings.size - 1);
        return stands && readings.size < READINGS ? readings.add(hours, worth, wants) : NONE;
    }

    public int best(int hours) {
        return within(hours, 0, 10000) ? readings.bestSet(hours) : NONE;
    }

    public int judge(int set) {
        if (!within(set, 0, readings.allSets() - 1)) {
            return NONE;
        }
        return readings.wantsOutside(set) ? NO_SET : readings.worthOf(set);
    }

    public int look(int i, int what) {
        return books.cell(i, what);
    }

    public int count(int what) {
        if (within(what, 20, 39)) {
            return clausesOf(laws.rules, what - 20);
        }
        if (within(what, 40, 45)) {
            return clausesOf(chains, what - 40);
        }
        switch (what) {
            case 0: return books.today;
            case 1: return books.houses;
            case 2: return books.rows;
            case 3: return laws.rules.size();
            case 4: return books.mendings;
            case 5: return chains.size();
            case 6: return askings;
            case 7: return readings.size;
            case 8: return taped;
            default: return NONE;
        }
    }

    private static int clausesOf(ArrayList<Text> texts, int i) {
        return within(i, 0, texts.size() - 1) ? texts.get(i).clauses.size() : NONE;
    }

    private static boolean within(int value, int least, int most) {
        return value >= least && value <= most;
    }

    private static boolean isDay(int day) {
        return within(day, 0, LAST_DAY);
    }

    private static boolean isHand(int hand) {
        return within(hand, 0, HANDS - 1);
    }

    private static boolean isIn(int k, int set) {
        return (set >> k & 1) != 0;
    }

    /** What was told: NOW, HOUSES, ROWS and their MENDINGS. */
    private static final class Books {
        int today;
        int houses;
        int rows;
        int mendings;
        private final int[] firstSums = new int[HOUSES];
        private final int[] cells = new int[ROWS * WIDTH];
        private final int[] order = new int[ROWS];
        private final int[] mendedRows = new int[MENDINGS];
        private final int[] mendedSums = new int[MENDINGS];
        private final int[] mendedDays = new int[MENDINGS];

        boolean isHouse(int house) {
            return house >= 0 && house < houses;
        }

        boolean isRow(int i) {
            return i >= 0 && i < rows;
        }

        int addHouse(int sum) {
            if (houses >= HOUSES) {
                return NONE;
            }
            firstSums[houses] = sum;
            houses++;
            return houses - 1;
        }

        int atFirst(int house) {
            return house >= 0 && house < houses ? firstSums[house] : 0;
        }

        int addRow(int[] told) {
            if (rows >= ROWS || told.length != WIDTH) {
                return NONE;
            }
            System.arraycopy(told, 0, cells, rows * WIDTH, WIDTH);
            rows++;
            putInOrder(rows - 1);
            return rows - 1;
        }

        /** The newest ROW has the highest number, so it goes behind all of its DAY and HOUR. */
        private void putInOrder(int i) {
            int place = i;
            while (place > 0 && isLater(order[place - 1], i)) {
                order[place] = order[place - 1];
                place--;
            }
            order[place] = i;
        }

        private boolean isLater(int i, int j) {
            int days = cell(i, DAY) - cell(j, DAY);
            return days > 0 || days == 0 && cell(i, HOUR) > cell(j, HOUR);
        }

        /** The ROW at a place of THEIR ORDER of all that were ever told. */
        int rowAt(int place) {
            return place >= 0 && place < rows ? order[place] : NONE;
        }

        int cell(int i, int what) {
            return i >= 0 && i < rows && what >= 0 && what < WIDTH ? cells[i * WIDTH + what] : NONE;
        }

        void setCleared(int i) {
            if (isRow(i)) {
                cells[i * WIDTH + CLEARED] = today;
            }
        }

        void addMending(int i, int sum) {
            if (mendings < MENDINGS) {
                mendedRows[mendings] = i;
                mendedSums[mendings] = sum;
                mendedDays[mendings] = today;
                mendings++;
            }
        }

        int mendedRow(int m) {
            return m >= 0 && m < mendings ? mendedRows[m] : NONE;
        }

        int mendedSum(int m) {
            return m >= 0 && m < mendings ? mendedSums[m] : 0;
        }

        int mendedDay(int m) {
            return m >= 0 && m < mendings ? mendedDays[m] : NONE;
        }

        int payeeOf(int i) {
            int kind = cell(i, KIND);
            return kind == SALE || kind == PAY ? cell(i, OTHER) : NONE;
        }

        int houseInto(int i) {
            return cell(i, KIND) == MOVE ? cell(i, OTHER) : NONE;
        }

        /** 1 where a ROW's SUM comes into a HOUSE, -1 where it goes out of it, else 0. */
        int direction(int i, int house) {
            if (houseInto(i) == house) {
                return 1;
            }
            int kind = cell(i, KIND);
            if (cell(i, HOUSE) != house || kind == GUESS) {
                return 0;
            }
            return kind == SALE ? 1 : -1;
        }
    }

    /** The ROWS as KNOWN on a DAY. */
    private static final class View {
        int day;
        int size;
        private final Books books;
        // By number of ROW; 0 says that it is not KNOWN, for no KNOWN SUM is 0.
        private final int[] sums = new int[ROWS];
        private final int[] places = new int[ROWS];
        private final int[] order = new int[ROWS];
        // By number of ROW, what the letters n and t ask for.
        private final int[] crowds = new int[ROWS];
        private final int[] turnovers = new int[ROWS];
        // Of one DAY, by HAND and by KIND and PAYEE; all 0 between two DAYS.
        private final int[] byHand = new int[HANDS];
        private final int[] byPayee = new int[2 * PAYEES];

        View(Books books) {
            this.books = books;
        }

        void asOf(int t) {
            day = t;
            readSums();
            size = 0;
            for (int place = 0; place < books.rows; place++) {
                append(books.rowAt(place));
            }
            int start = 0;
            for (int end = 1; end <= size; end++) {
                if (end == size || dayAt(end) != dayAt(start)) {
                    countDay(start, end);
                    start = end;
                }
            }
        }

        private void readSums() {
            for (int i = 0; i < books.rows; i++) {
                sums[i] = books.cell(i, TOLD) <= day ? books.cell(i, SUM) : 0;
            }
            // NOW never goes back, so the first MENDING behind the DAY ends those told by it.
            for (int m = 0; m < books.mendings && books.mendedDay(m) <= day; m++) {
                int i = books.mendedRow(m);
                if (books.isRow(i)) {
                    sums[i] = books.mendedSum(m);
                }
            }
        }

        private void append(int i) {
            if (isKnown(i) && size < ROWS) {
                order[size] = i;
                places[i] = size;
                size++;
            }
        }

        private int dayAt(int place) {
            return books.cell(rowAt(place), DAY);
        }

        private void countDay(int start, int end) {
            for (int place = start; place < end; place++) {
                countRow(rowAt(place), 1);
            }
            for (int place = start; place < end; place++) {
                int i = rowAt(place);
                int hand = books.cell(i, HAND);
                int group = groupOf(i);
                if (isKnown(i)) {
                    crowds[i] = within(hand, 0, HANDS - 1) ? byHand[hand] : 0;
                    turnovers[i] = within(group, 0, byPayee.length - 1) ? byPayee[group] : 0;
                }
            }
            for (int place = start; place < end; place++) {
                countRow(rowAt(place), -1);
            }
        }

        /** Takes a ROW to those of its DAY (times 1), or away again (times -1). */
        private void countRow(int i, int times) {
            int hand = books.cell(i, HAND);
            if (within(hand, 0, HANDS - 1)) {
                byHand[hand] += times;
            }
            int group = groupOf(i);
            if (within(group, 0, byPayee.length - 1)) {
                byPayee[group] += times * sumOf(i);
            }
        }

        /** SALES and PAYS of one PAYEE are a group each; other ROWS have none. */
        private int groupOf(int i) {
            int kind = books.cell(i, KIND);
            return kind == SALE || kind == PAY ? kind * PAYEES + books.cell(i, OTHER) : NONE;
        }

        boolean isKnown(int i) {
            return i >= 0 && i < ROWS && sums[i] > 0;
        }

        int sumOf(int i) {
            return i >= 0 && i < ROWS ? sums[i] : 0;
        }

        int placeOf(int i) {
            return i >= 0 && i < ROWS && sums[i] > 0 ? places[i] : NONE;
        }

        int crowdOf(int i) {
            return i >= 0 && i < ROWS ? crowds[i] : 0;
        }

        int turnoverOf(int i) {
            return i >= 0 && i < ROWS ? turnovers[i] : 0;
        }

        int rowAt(int place) {
            return place >= 0 && place < size ? order[place] : NONE;
        }

        int total() {
            int total = 0;
            for (int place = 0; place < size; place++) {
                total += sumOf(rowAt(place));
            }
            return total;
        }

        int rowAtCoin(long coin) {
            long end = 0;
            for (int place = 0; place < size; place++) {
                end += sumOf(rowAt(place));
                if (coin < end) {
                    return rowAt(place);
                }
            }
            return NONE;
        }
    }

    /** A CLAUSE of a RULE, or a STEP of a CHAIN. */
    private static final class Clause {
        static final int BREAKS = 'r';
        static final int LETS = 'l';
        static final int STRIKES = 'x';
        static final int STEP = '(';

        final int kind;
        final int[] code;
        // Of an x the RULE and its CLAUSE; of a STEP its letters as bits, and nothing.
        final int target;
        final int targetClause;

        Clause(int kind, int[] code, int target, int targetClause) {
            this.kind = kind;
            this.code = code;
            this.target = target;
            this.targetClause = targetClause;
        }
    }

    /** A RULE's TEXT or a CHAIN's; a CHAIN has all DAYS. */
    private static final class Text {
        final ArrayList<Clause> clauses = new ArrayList<>();
        private final int from;
        private final int to;

        Text(int from, int to) {
            this.from = from;
            this.to = to;
        }

        boolean isInForce(int day) {
            return within(day, from, to);
        }

        /** The first r, or null. */
        Clause firstBreaking() {
            for (int j = 0; j < clauses.size(); j++) {
                if (clauses.get(j).kind == Clause.BREAKS) {
                    return clauses.get(j);
                }
            }
            return null;
        }
    }

    /**
     * Reads a TEXT and makes code of each C: one int a sign, the operation in its lowest bits. Behind a
     * FAULT the text reads as ended, so that all readers come back by themselves and the first FAULT stays.
     */
    private static final class Parser {
        static final String LETTERS = "ksdhwvoepqant";
        static final int OPERATION_BITS = 4;
        static final int NUMBER = 0;
        static final int LETTER = 1;
        static final int NOT = 2;
        static final int AND = 3;
        static final int OR = 4;
        static final int PLUS = 5;
        static final int MINUS = 6;
        static final int TIMES = 7;
        static final int THROUGH = 8;
        static final int REST = 9;
        static final int LESS = 10;
        static final int MORE = 11;
        static final int LIKE = 12;

        private static final int END = -1;
        private static final int MISPLACED = 1;
        private static final int EIGHTH_DIGIT = 2;
        private static final int NO_SUCH_CLAUSE = 3;
        private static final int TOO_MANY = 4;
        private static final int TOO_DEEP = 5;
        private static final int TWICE = 6;
        private static final int DIGITS = 7;
        private static final int DEPTH = 6;

        private final int[] text;
        private final int[] code = new int[RULE_BYTES];
        private int length;
        private int used;
        private int at;
        private int fault;
        private int faultPlace;

        Parser(int[] text) {
            this.text = text;
        }

        private void begin(int bytes) {
            length = Math.min(bytes, text.length);
            at = 0;
            fault = 0;
            faultPlace = 0;
        }

        boolean isFaulty() {
            return fault != 0;
        }

        int faultAnswer() {
            return -1000 * fault - faultPlace;
        }

        Text ruleText(int bytes, int from, int to) {
            begin(bytes);
            Text rule = new Text(from, to);
            for (int k = 0; k <= CLAUSES; k++) {
                int letter = peek();
                if (k == CLAUSES && isClauseLetter(letter)) {
                    fail(TOO_MANY, at);
                }
                if (letter == Clause.STRIKES) {
                    rule.clauses.add(striking());
                } else {
                    want(letter == Clause.LETS ? Clause.LETS : Clause.BREAKS);
                    rule.clauses.add(new Clause(letter, enclosed(), NONE, NONE));
                }
                if (!take(';')) {
                    break;
                }
            }
            wantEnd();
            return rule;
        }

        Text chainText(int bytes) {
            begin(bytes);
            Text chain = new Text(0, LAST_DAY);
            for (int k = 0; k <= STEPS; k++) {
                if (k == STEPS && peek() == '(') {
                    fail(TOO_MANY, at);
                }
                int[] stepCode = enclosed();
                int letters = k == 0 ? 0 : stepLetters();
                chain.clauses.add(new Clause(Clause.STEP, stepCode, letters, NONE));
                if (!take(';')) {
                    break;
                }
            }
            wantEnd();
            return chain;
        }

        private static boolean isClauseLetter(int sign) {
            return sign == Clause.BREAKS || sign == Clause.LETS || sign == Clause.STRIKES;
        }

        private Clause striking() {
            want(Clause.STRIKES);
            int target = numberUpTo(RULES - 1);
            want('.');
            int targetClause = numberUpTo(CLAUSES - 1);
            return new Clause(Clause.STRIKES, new int[0], target, targetClause);
        }

        /** A C with the ( and the ) of its CLAUSE or STEP. */
        private int[] enclosed() {
            used = 0;
            want('(');
            condition(1);
            want(')');
            return Arrays.copyOf(code, used);
        }

        private int stepLetters() {
            int letters = 0;
            for (int k = 0; k < length; k++) {
                int bit = stepLetter(peek());
                if (bit == 0) {
                    break;
                }
                if ((letters & bit) != 0) {
                    fail(TWICE, at);
                }
                letters |= bit;
                at++;
            }
            return letters;
        }

        private static int stepLetter(int sign) {
            switch (sign) {
                case 'p': return STEP_PAYEE;
                case 'w': return STEP_HAND;
                case 'o': return STEP_HOUSE;
                default: return 0;
            }
        }

        private void condition(int depth) {
            part(depth);
            for (int k = 0; k < length && take('|'); k++) {
                int leap = emit(OR, 0);
                part(depth);
                aim(leap, OR);
            }
        }

        private void part(int depth) {
            piece(depth);
            for (int k = 0; k < length && take('&'); k++) {
                int leap = emit(AND, 0);
                piece(depth);
                aim(leap, AND);
            }
        }

        private void piece(int depth) {
            int sign = peek();
            if (sign == '!') {
                if (opens(depth)) {
                    piece(depth + 1);
                    emit(NOT, 0);
                }
            } else if (sign == '(') {
                if (opens(depth)) {
                    condition(depth + 1);
                    want(')');
                }
            } else {
                sum(depth);
                int operation = comparison(peek());
                at++;
                sum(depth);
                emit(operation, 0);
            }
        }

        private int comparison(int sign) {
            switch (sign) {
                case '<': return LESS;
                case '>': return MORE;
                case '=': return LIKE;
                default:
                    fail(MISPLACED, at);
                    return LIKE;
            }
        }

        private void sum(int depth) {
            term(depth);
            for (int k = 0; k < length && (peek() == '+' || peek() == '-'); k++) {
                int operation = peek() == '+' ? PLUS : MINUS;
                at++;
                term(depth);
                emit(operation, 0);
            }
        }

        private void term(int depth) {
            factor(depth);
            for (int k = 0; k < length && isFactorSign(peek()); k++) {
                int operation = peek() == '*' ? TIMES : peek() == '/' ? THROUGH : REST;
                at++;
                factor(depth);
                emit(operation, 0);
            }
        }

        private static boolean isFactorSign(int sign) {
            return sign == '*' || sign == '/' || sign == '%';
        }

        private void factor(int depth) {
            int sign = peek();
            int letter = sign == END ? NONE : LETTERS.indexOf((char) sign);
            if (sign == '[') {
                if (opens(depth)) {
                    sum(depth + 1);
                    want(']');
                }
            } else if (letter >= 0) {
                at++;
                emit(LETTER, letter);
            } else {
                emit(NUMBER, number());
            }
        }

        private int number() {
            if (!isDigit(peek())) {
                fail(MISPLACED, at);
            }
            int value = 0;
            for (int k = 0; k < DIGITS && isDigit(peek()); k++) {
                value = 10 * value + peek() - '0';
                at++;
            }
            if (isDigit(peek())) {
                fail(EIGHTH_DIGIT, at);
            }
            return value;
        }

        private int numberUpTo(int most) {
            int first = at;
            int value = number();
            if (value > most) {
                fail(NO_SUCH_CLAUSE, first);
            }
            return value;
        }

        private static boolean isDigit(int sign) {
            return sign >= '0' && sign <= '9';
        }

        /** Takes a sign that opens, where so many are open already, or finds it one too many. */
        private boolean opens(int depth) {
            if (depth >= DEPTH) {
                fail(TOO_DEEP, at);
                return false;
            }
            at++;
            return true;
        }

        private int peek() {
            return fault == 0 && at >= 0 && at < length ? text[at] : END;
        }

        private boolean take(int sign) {
            if (peek() != sign) {
                return false;
            }
            at++;
            return true;
        }

        private void want(int sign) {
            if (peek() == sign) {
                at++;
            } else {
                fail(MISPLACED, at);
            }
        }

        private void wantEnd() {
            if (at < length) {
                fail(MISPLACED, at);
            }
        }

        private void fail(int kind, int place) {
            if (fault == 0) {
                fault = kind;
                faultPlace = place;
            }
        }

        private int emit(int operation, int operand) {
            if (used >= code.length) {
                return NONE;
            }
            code[used] = operand << OPERATION_BITS | operation;
            used++;
            return used - 1;
        }

        /** Lets a leap end behind all that has been emitted. */
        private void aim(int leap, int operation) {
            if (within(leap, 0, code.length - 1)) {
                code[leap] = used << OPERATION_BITS | operation;
            }
        }
    }

    /** What a C asks of one KNOWN ROW, and whether the C holds. */
    private static final class Facts {
        // The HAND whose LEAVES are thought away, or NONE.
        int unbelieved = NONE;
        private final Books books;
        private final View view;
        // In the order of the parser's LETTERS.
        private final long[] letters = new long[13];
        private final long[] stack = new long[RULE_BYTES];

        Facts(Books books, View view) {
            this.books = books;
            this.view = view;
        }

        void face(int i) {
            int leave = books.cell(i, LEAVE);
            letters[0] = books.cell(i, KIND);
            letters[1] = view.sumOf(i);
            letters[2] = books.cell(i, DAY);
            letters[3] = books.cell(i, HOUR);
            letters[4] = books.cell(i, HAND);
            letters[5] = leave == unbelieved ? NONE : leave;
            letters[6] = books.cell(i, HOUSE);
            letters[7] = books.houseInto(i);
            letters[8] = books.payeeOf(i);
            letters[9] = books.cell(i, PAPER);
            letters[10] = books.cell(i, TOLD) - books.cell(i, DAY);
            letters[11] = view.crowdOf(i);
            letters[12] = view.turnoverOf(i);
        }

        /** Leaps only go forward, so each operation is done once at most. */
        boolean meets(int[] code) {
            int top = 0;
            for (int next = 0; next < code.length; next++) {
                int operation = code[next] & (1 << Parser.OPERATION_BITS) - 1;
                int operand = code[next] >> Parser.OPERATION_BITS;
                if (operation == Parser.NUMBER || operation == Parser.LETTER) {
                    if (top >= stack.length) {
                        return false;
                    }
                    stack[top] = operation == Parser.NUMBER ? operand : letter(operand);
                    top++;
                } else if (top < 1 || top > stack.length) {
                    return false;
                } else if (operation == Parser.NOT) {
                    stack[top - 1] = 1 - stack[top - 1];
                } else if (operation == Parser.AND || operation == Parser.OR) {
                    boolean holds = stack[top - 1] != 0;
                    if (holds == (operation == Parser.OR)) {
                        next = Math.max(next, operand - 1);
                    } else {
                        top--;
                    }
                } else {
                    if (top < 2 || isRefused(operation, stack[top - 1])) {
                        return false;
                    }
                    stack[top - 2] = reckon(operation, stack[top - 2], stack[top - 1]);
                    top--;
                }
            }
            return top == 1 && stack[0] != 0;
        }

        private long letter(int which) {
            return which >= 0 && which < letters.length ? letters[which] : 0;
        }

        private static boolean isRefused(int operation, long divisor) {
            return divisor == 0 && (operation == Parser.THROUGH || operation == Parser.REST);
        }

        private static long reckon(int operation, long a, long b) {
            switch (operation) {
                case Parser.PLUS: return a + b;
                case Parser.MINUS: return a - b;
                case Parser.TIMES: return a * b;
                case Parser.THROUGH: return b == 0 ? 0 : a / b;
                case Parser.REST: return b == 0 ? 0 : a % b;
                case Parser.LESS: return a < b ? 1 : 0;
                case Parser.MORE: return a > b ? 1 : 0;
                default: return a == b ? 1 : 0;
            }
        }
    }

    /** The RULES, and which ROWS of the view they break. */
    private static final class Laws {
        final ArrayList<Text> rules = new ArrayList<>();
        private final Books books;
        private final View view;
        private final Facts facts;
        // By RULE, its STRUCK CLAUSES as bits.
        private final int[] struck = new int[RULES];

        Laws(Books books, View view, Facts facts) {
            this.books = books;
            this.view = view;
            this.facts = facts;
        }

        /** The RULE BY which a KNOWN ROW is BROKEN, or UNBROKEN. */
        int breaker(int i) {
            Arrays.fill(struck, 0);
            facts.face(i);
            int day = books.cell(i, DAY);
            for (int r = Math.min(rules.size(), RULES) - 1; r >= 0; r--) {
                Text rule = rules.get(r);
                if (rule.isInForce(day)) {
                    int out = struck[r];
                    strikeBelow(rule, r, out, day);
                    // An l lets what its own RULE and all lower ones break: nothing is left to ask.
                    if (someHolds(rule, Clause.LETS, out)) {
                        return UNBROKEN;
                    }
                    if (someHolds(rule, Clause.BREAKS, out)) {
                        return r;
                    }
                }
            }
            return UNBROKEN;
        }

        /** An x strikes in lower RULES alone, so what is STRUCK of its own RULE is settled before. */
        private void strikeBelow(Text rule, int r, int out, int day) {
            int end = Math.min(r, rules.size());
            for (int j = 0; j < rule.clauses.size(); j++) {
                Clause clause = rule.clauses.get(j);
                boolean counts = clause.kind == Clause.STRIKES && !isIn(j, out);
                int target = clause.target;
                if (counts && target >= 0 && target < end && rules.get(target).isInForce(day)) {
                    struck[target] |= 1 << clause.targetClause;
                }
            }
        }

        private boolean someHolds(Text rule, int kind, int out) {
            for (int j = 0; j < rule.clauses.size(); j++) {
                Clause clause = rule.clauses.get(j);
                if (clause.kind == kind && !isIn(j, out) && facts.meets(clause.code)) {
                    return true;
                }
            }
            return false;
        }

        boolean isFinding(int i) {
            int cleared = books.cell(i, CLEARED);
            boolean isCleared = cleared != NONE && cleared <= view.day;
            return view.isKnown(i) && !isCleared && breaker(i) != UNBROKEN;
        }

        int countFindings() {
            int size = 0;
            for (int place = 0; place < view.size; place++) {
                if (isFinding(view.rowAt(place))) {
                    size++;
                }
            }
            return size;
        }
    }

    /**
     * FOLLOWED as a flow: a HOUSE between two of its gifts is a node, its coins that stay are an edge to the
     * next node of it, its coins that go another edge. How many coins each edge has is settled by the ROWS
     * alone, and any part of a HOUSE's coins that fits the edges can be filled up by its other coins and
     * everyone else's; so the most that can arrive somewhere is a greatest flow, and the least is what
     * can't arrive elsewhere.
     */
    private static final class Flow {
        private static final int NODES = HOUSES + ROWS + 3;
        private static final int EDGES = 2 * (2 * ROWS + HOUSES + 2);
        private static final int SOURCE = 0;
        private static final int SINK = 1;
        private static final int OUTSIDE = 2;
        private static final int BOUNDLESS = 1000000000;
        private static final int MOST_PATHS = 1000000;
        private static final int START = -2;

        private final Books books;
        private final View view;
        private final int[] nodeOf = new int[HOUSES];
        private final int[] coins = new int[HOUSES];
        private final int[] firstEdge = new int[NODES];
        private final int[] nextEdge = new int[EDGES];
        private final int[] target = new int[EDGES];
        private final int[] room = new int[EDGES];
        private final int[] via = new int[NODES];
        private final int[] queue = new int[NODES];
        private int nodes;
        private int edges;

        Flow(Books books, View view) {
            this.books = books;
            this.view = view;
        }

        int coinsOf(int a, int b, boolean most) {
            lay(a);
            for (int place = 0; place < view.size; place++) {
                pass(view.rowAt(place));
            }
            for (int house = 0; house < books.houses && house < HOUSES; house++) {
                if ((house == b) == most) {
                    link(nodeOf[house], SINK, BOUNDLESS);
                }
            }
            if (!most) {
                link(OUTSIDE, SINK, BOUNDLESS);
            }
            int arrived = greatestFlow();
            return most ? arrived : books.atFirst(a) - arrived;
        }

        private void lay(int a) {
            nodes = 0;
            edges = 0;
            for (int k = SOURCE; k <= OUTSIDE; k++) {
                addNode();
            }
            for (int house = 0; house < books.houses && house < HOUSES; house++) {
                nodeOf[house] = addNode();
                coins[house] = books.atFirst(house);
            }
            if (within(a, 0, HOUSES - 1)) {
                link(SOURCE, nodeOf[a], coins[a]);
            }
        }

        private void pass(int i) {
            int kind = books.cell(i, KIND);
            int house = books.cell(i, HOUSE);
            int into = books.houseInto(i);
            if (!within(house, 0, HOUSES - 1)) {
                return;
            }
            if (kind == SALE) {
                coins[house] += view.sumOf(i);
            } else if (kind == PAY) {
                give(house, OUTSIDE, view.sumOf(i));
            } else if (kind == MOVE && within(into, 0, HOUSES - 1)) {
                give(house, nodeOf[into], view.sumOf(i));
                coins[into] += view.sumOf(i);
            }
        }

        private void give(int house, int node, int sum) {
            int own = Math.min(sum, coins[house]);
            int before = nodeOf[house];
            link(before, node, own);
            coins[house] -= own;
            nodeOf[house] = addNode();
            link(before, nodeOf[house], coins[house]);
        }

        private int addNode() {
            if (nodes >= NODES) {
                return OUTSIDE;
            }
            firstEdge[nodes] = NONE;
            nodes++;
            return nodes - 1;
        }

        /** An edge and its way back stand side by side, so that e ^ 1 is the other of the two. */
        private void link(int from, int to, int most) {
            if (edges + 2 <= EDGES && within(from, 0, nodes - 1) && within(to, 0, nodes - 1)) {
                addEdge(from, to, most);
                addEdge(to, from, 0);
            }
        }

        private void addEdge(int from, int to, int most) {
            target[edges] = to;
            room[edges] = most;
            nextEdge[edges] = firstEdge[from];
            firstEdge[from] = edges;
            edges++;
        }

        private int greatestFlow() {
            int flow = 0;
            for (int k = 0; k < MOST_PATHS && findPath(); k++) {
                flow += fillPath();
            }
            return flow;
        }

        /** Looks for a shortest path with room, and leaves in via the edge into each node of it. */
        private boolean findPath() {
            Arrays.fill(via, NONE);
            via[SOURCE] = START;
            queue[0] = SOURCE;
            int queued = 1;
            for (int head = 0; head < queued && head < NODES; head++) {
                // An edge's next one is an older one, of a lower number.
                for (int e = firstEdge[queue[head]]; isEdge(e); e = Math.min(e - 1, nextEdge[e])) {
                    int node = target[e];
                    if (room[e] > 0 && via[node] == NONE && queued < NODES) {
                        via[node] = e;
                        queue[queued] = node;
                        queued++;
                    }
                }
            }
            return via[SINK] != NONE;
        }

        private int fillPath() {
            int sum = BOUNDLESS;
            int e = via[SINK];
            for (int k = 0; k < NODES && isEdge(e); k++) {
                sum = Math.min(sum, room[e]);
                e = edgeBefore(e);
            }
            e = via[SINK];
            for (int k = 0; k < NODES && isEdge(e); k++) {
                room[e] -= sum;
                room[e ^ 1] += sum;
                e = edgeBefore(e);
            }
            return sum;
        }

        private int edgeBefore(int e) {
            return via[target[e ^ 1]];
        }

        private boolean isEdge(int e) {
            return within(e, 0, edges - 1);
        }
    }

    /**
     * Counts ROUNDS. Of the ways that a first MOVE opens only how many there are is kept, for each HOUSE
     * reached and each set of HOUSES gone into: so many ways need no more time than few.
     */
    private static final class Rounder {
        private static final int LONGEST = 6;
        // A way that is not home yet has reached one of the other HOUSES; these are numbered without home.
        private static final int STAYS = HOUSES - 1;
        // What else such a way went into: a set of the rest, with that into which the first MOVE went and up to
        // three of the seven others; or nothing, where it has reached just that.
        private static final int SETS = 1 << STAYS - 1;
        private static final int MOST_SETS = 1 + 7 + 21 + 35;

        private final Books books;
        private final View view;
        // By stay reached and the set of the rest: how many ways.
        private final int[] waysTo = new int[STAYS * SETS];
        // By stay reached: the sets (with itself) that have ways, and how many sets those are.
        private final int[] sets = new int[STAYS * MOST_SETS];
        private final int[] sizes = new int[STAYS];

        Rounder(Books books, View view) {
            this.books = books;
            this.view = view;
        }

        int countRounds(int days, int hundredths) {
            int rounds = 0;
            for (int place = 0; place < view.size && rounds < MOST_COUNTED; place++) {
                if (isMove(view.rowAt(place))) {
                    rounds = Math.min(MOST_COUNTED, rounds + roundsFrom(place, days, hundredths));
                }
            }
            return rounds;
        }

        private boolean isMove(int i) {
            return books.cell(i, KIND) == MOVE;
        }

        private int roundsFrom(int place, int days, int hundredths) {
            int first = view.rowAt(place);
            int home = books.cell(first, HOUSE);
            int sum = view.sumOf(first);
            int farthest = sum * hundredths / 100;
            int lastDay = books.cell(first, DAY) + days;
            int stay = stayOf(books.houseInto(first), home);
            forget();
            addWays(stay, 1 << stay, 1);
            int rounds = 0;
            for (int later = place + 1; later < view.size && rounds < MOST_COUNTED; later++) {
                int i = view.rowAt(later);
                if (books.cell(i, DAY) > lastDay) {
                    break;
                }
                if (isMove(i) && Math.abs(view.sumOf(i) - sum) <= farthest) {
                    int from = stayOf(books.cell(i, HOUSE), home);
                    rounds = Math.min(MOST_COUNTED, rounds + goOn(from, stayOf(books.houseInto(i), home)));
                }
            }
            return rounds;
        }

        /** A HOUSE's number among all but home, or NONE: home itself. */
        private static int stayOf(int house, int home) {
            return house == home ? NONE : house < home ? house : house - 1;
        }

        /** Lengthens all ways that a MOVE can lengthen; answers how many come home by it. */
        private int goOn(int from, int into) {
            int arrived = 0;
            int size = within(from, 0, STAYS - 1) ? sizes[from] : 0;
            for (int k = 0; k < size; k++) {
                int set = setAt(from, k);
                if (into == NONE) {
                    arrived = Math.min(MOST_COUNTED, arrived + waysBy(from, set));
                } else if (!isIn(into, set) && Integer.bitCount(set) < LONGEST - 1) {
                    addWays(into, set | 1 << into, waysBy(from, set));
                }
            }
            return arrived;
        }

        private int setAt(int stay, int k) {
            int index = stay * MOST_SETS + k;
            return within(index, 0, sets.length - 1) ? sets[index] : 0;
        }

        private int waysBy(int stay, int set) {
            int index = indexOf(stay, set);
            return within(index, 0, waysTo.length - 1) ? waysTo[index] : 0;
        }

        /** A set holds the stay reached itself: that bit says nothing, and is left out. */
        private static int indexOf(int stay, int set) {
            int below = set & (1 << stay) - 1;
            int above = set >> stay + 1 << stay;
            return stay * SETS + (above | below);
        }

        private void addWays(int stay, int set, int more) {
            int index = indexOf(stay, set);
            if (!within(stay, 0, STAYS - 1) || !within(index, 0, waysTo.length - 1)) {
                return;
            }
            if (waysTo[index] == 0 && sizes[stay] < MOST_SETS) {
                sets[stay * MOST_SETS + sizes[stay]] = set;
                sizes[stay]++;
            }
            waysTo[index] = Math.min(MOST_COUNTED, waysTo[index] + more);
        }

        private void forget() {
            for (int stay = 0; stay < STAYS; stay++) {
                for (int k = 0; k < sizes[stay]; k++) {
                    int index = indexOf(stay, setAt(stay, k));
                    if (within(index, 0, waysTo.length - 1)) {
                        waysTo[index] = 0;
                    }
                }
                sizes[stay] = 0;
            }
        }
    }

    /**
     * The rows of ROWS that a CHAIN FITS. For a first ROW it reckons the most that the STEPS left can bring
     * from each place on; so nothing is tried that can't be brought to an end.
     */
    private static final class Fitter {
        private static final int PLACES = ROWS + 1;

        private final Books books;
        private final View view;
        private final Facts facts;
        // By place in THEIR ORDER: the STEPS whose C holds there, as bits.
        private final int[] holding = new int[ROWS];
        // The same behind a first ROW: the STEPS whose letters are so, too.
        private final int[] fitting = new int[ROWS];
        // By STEP and place: the most that it and the STEPS behind it bring from there on, or NONE.
        private final int[] most = new int[(STEPS + 1) * PLACES];
        // By STEP, its letters as bits.
        private final int[] letters = new int[STEPS];
        private int steps;
        private int days;
        private int end;

        Fitter(Books books, View view, Facts facts) {
            this.books = books;
            this.view = view;
            this.facts = facts;
        }

        void prepare(Text chain, int mostDays) {
            steps = Math.min(chain.clauses.size(), STEPS);
            days = mostDays;
            Arrays.fill(holding, 0);
            for (int step = 0; step < steps; step++) {
                Clause clause = chain.clauses.get(step);
                letters[step] = clause.target;
                for (int place = 0; place < view.size && place < ROWS; place++) {
                    facts.face(view.rowAt(place));
                    if (facts.meets(clause.code)) {
                        holding[place] |= 1 << step;
                    }
                }
            }
        }

        int countFitting(int sum) {
            int size = 0;
            for (int place = 0; place < view.size && size < MOST_COUNTED; place++) {
                int own = view.sumOf(view.rowAt(place));
                if (startAt(place, sum)) {
                    size += countFrom(1, place + 1, sum - own, MOST_COUNTED - size);
                }
            }
            return size;
        }

        /** How many ways, up to a bound, to find ROWS from a place on for a STEP and those behind it. */
        private int countFrom(int step, int place, int sum, int bound) {
            if (step >= steps) {
                return 1;
            }
            int size = 0;
            for (int p = place; p < end && size < bound; p++) {
                if (leads(step, p, sum)) {
                    size += countFrom(step + 1, p + 1, sum - view.sumOf(view.rowAt(p)), bound - size);
                }
            }
            return size;
        }

        int firstFitting(int sum, int wanted) {
            if (!within(wanted, 0, steps - 1)) {
                return NONE;
            }
            int i = leastFirst(sum);
            int left = sum;
            for (int step = 1; step <= wanted && i != NONE; step++) {
                left -= view.sumOf(i);
                i = leastNext(step, view.placeOf(i), left);
            }
            return i;
        }

        private int leastFirst(int sum) {
            for (int i = 0; i < books.rows; i++) {
                if (view.isKnown(i) && startAt(view.placeOf(i), sum)) {
                    return i;
                }
            }
            return NONE;
        }

        private int leastNext(int step, int behind, int sum) {
            for (int i = 0; i < books.rows; i++) {
                int place = view.placeOf(i);
                if (place > behind && place < end && leads(step, place, sum)) {
                    return i;
                }
            }
            return NONE;
        }

        /** Takes the ROW at a place for the first one; answers whether a whole row can come of it. */
        private boolean startAt(int place, int sum) {
            if (!within(place, 0, ROWS - 1) || !isIn(0, holding[place])) {
                return false;
            }
            int first = view.rowAt(place);
            int lastDay = books.cell(first, DAY) + days;
            end = place + 1;
            while (end < view.size && books.cell(view.rowAt(end), DAY) <= lastDay) {
                end++;
            }
            for (int p = place + 1; p < end && p < ROWS; p++) {
                fitting[p] = holding[p] & stepsAlike(first, view.rowAt(p));
            }
            fillMost(place + 1);
            fitting[place] = 1;
            return leads(0, place, sum);
        }

        private int stepsAlike(int first, int i) {
            int alike = 0;
            alike |= books.payeeOf(i) == books.payeeOf(first) ? STEP_PAYEE : 0;
            alike |= books.cell(i, HAND) == books.cell(first, HAND) ? STEP_HAND : 0;
            alike |= books.cell(i, HOUSE) == books.cell(first, HOUSE) ? STEP_HOUSE : 0;
            int bits = 0;
            for (int step = 1; step < steps && step < STEPS; step++) {
                if ((letters[step] & ~alike) == 0) {
                    bits |= 1 << step;
                }
            }
            return bits;
        }

        private void fillMost(int from) {
            for (int place = end; place >= from; place--) {
                setMost(steps, place, 0);
                for (int step = 1; step < steps; step++) {
                    int later = place < end ? mostFrom(step, place + 1) : NONE;
                    setMost(step, place, place < end ? Math.max(later, mostBy(step, place)) : NONE);
                }
            }
        }

        /** The most with this very place for the STEP, or NONE. */
        private int mostBy(int step, int place) {
            boolean fits = within(place, 0, ROWS - 1) && isIn(step, fitting[place]);
            int rest = mostFrom(step + 1, place + 1);
            return fits && rest != NONE ? view.sumOf(view.rowAt(place)) + rest : NONE;
        }

        private boolean leads(int step, int place, int sum) {
            int reached = mostBy(step, place);
            return reached != NONE && reached >= sum;
        }

        private int mostFrom(int step, int place) {
            return step >= 0 && step <= STEPS && place >= 0 && place < PLACES ? most[step * PLACES + place] : NONE;
        }

        private void setMost(int step, int place, int sum) {
            if (step >= 0 && step <= STEPS && place >= 0 && place < PLACES) {
                most[step * PLACES + place] = sum;
            }
        }
    }

    /** READINGS to do next, and sets of them as bits. */
    private static final class Readings {
        int size;
        private final int[] hours = new int[READINGS];
        private final int[] worths = new int[READINGS];
        private final int[] wants = new int[READINGS];

        int add(int costs, int worth, int wanted) {
            if (size >= READINGS) {
                return NONE;
            }
            hours[size] = costs;
            worths[size] = worth;
            wants[size] = wanted;
            size++;
            return size - 1;
        }

        int allSets() {
            return 1 << size;
        }

        boolean wantsOutside(int set) {
            for (int k = 0; k < READINGS; k++) {
                if (isIn(k, set) && wants[k] != NONE && !isIn(wants[k], set)) {
                    return true;
                }
            }
            return false;
        }

        int worthOf(int set) {
            return sumOf(worths, set);
        }

        private static int sumOf(int[] numbers, int set) {
            int sum = 0;
            for (int k = 0; k < numbers.length; k++) {
                sum += isIn(k, set) ? numbers[k] : 0;
            }
            return sum;
        }

        int bestSet(int most) {
            int best = 0;
            for (int set = 1; set < allSets(); set++) {
                if (sumOf(hours, set) <= most && !wantsOutside(set) && isBetter(set, best)) {
                    best = set;
                }
            }
            return best;
        }

        private boolean isBetter(int set, int best) {
            int gain = worthOf(set) - worthOf(best);
            return gain > 0 || gain == 0 && sumOf(hours, set) < sumOf(hours, best);
        }
    }
}
