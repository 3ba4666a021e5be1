import java.util.NoSuchElementException;

/**
 * A desk for relief within groups, as told by the promises of DOC.md.
 *
 * Every row is made once, with the object, and used again by each call: what a run makes is counted.
 */
public final class ReliefDesk {
    public static final int NONE = -1;

    private static final int NOT_SO_MANY = -2;
    private static final int BEYOND = -3;
    private static final int NO_PERIOD = -999999;
    private static final int NO_BALANCE = -9999999;
    private static final int ANYONE = -1;

    private static final int MAX_MEMBERS = 8;
    private static final int MAX_PERIODS = 12;
    private static final int MAX_TOLD_OWNS = 16;
    private static final int MAX_OWNS = 24;
    private static final int MAX_CLAIMS = 30;
    private static final int MAX_UNDO = 20;
    private static final int MAX_TAPE = 700;
    private static final int MAX_CHANCES = 60;
    private static final int LAST_DAY = 999;
    private static final int MAX_AMOUNT = 99999;
    private static final int MAX_PERCENT = 100;
    private static final int MAX_GATE = 100;
    private static final int MAX_SEED = 99999;
    private static final int MAX_WANTED = 9999999;
    private static final int USUAL_GATE = 75;

    private final Reader reader = new Reader();
    private Book book = new Book();
    private Book spareBook = new Book();
    private final Ledger claims = new Ledger();
    private final History history = new History();
    private final Image image = new Image();
    private final Shares shares = new Shares();
    private final Kin kin = new Kin();
    private final Net net = new Net();
    private final Flow flow = new Flow();
    private final Settling payments = new Settling();

    /* What a question "if it were otherwise" is worked out with, so that what stands is left alone. */
    private final Ledger trialClaims = new Ledger();
    private final Kin trialKin = new Kin();
    private final Net trialNet = new Net();
    private final Flow trialFlow = new Flow();
    private final int[] trialFirst = new int[MAX_PERIODS];

    private boolean netFresh = false;
    private boolean flowFresh = false;

    public ReliefDesk() {
    }

    // ---- the TEXT ----

    public int feed(int a, int b, int c, int d, int e) {
        if (reader.fed + 20 > MAX_TAPE) {
            return NONE;
        }
        reader.put(a);
        reader.put(b);
        reader.put(c);
        reader.put(d);
        reader.put(e);
        return reader.fed;
    }

    public int text(int n) {
        if (n < 0 || n > reader.fed) {
            return NOT_SO_MANY;
        }
        boolean good = reader.read(spareBook, n);
        if (!good) {
            return NONE;
        }
        Book told = spareBook;
        spareBook = book;
        book = told;
        claims.clear();
        history.clear();
        image.kept = false;
        forgetNet();
        return reader.lines;
    }

    public int fault(int what) {
        if (what == 0) {
            return reader.fault;
        }
        return what == 1 ? reader.place : NONE;
    }

    public int named(int letters) {
        return book.find(letters);
    }

    public int member(int member, int what) throws IndexOutOfBoundsException, NoSuchElementException {
        if (!book.hasMember(member)) {
            throw new IndexOutOfBoundsException("no such member");
        }
        switch (what) {
            case 0:
                return book.asks[member];
            case 1:
                return book.rates[member];
            case 2:
                return book.periodsOf(member);
            default:
                throw new NoSuchElementException("no such what");
        }
    }

    public int period(int period, int what) {
        if (!book.hasPeriod(period)) {
            return NO_PERIOD;
        }
        switch (what) {
            case 0:
                return book.owner[period];
            case 1:
                return book.first[period];
            case 2:
                return book.last[period];
            case 3:
                return book.results[period];
            case 4:
                return openOf(claims, period);
            case 5:
                return claims.takenOf(period);
            default:
                return NO_PERIOD;
        }
    }

    // ---- who owns whom ----

    public int percent(int a, int b, int day) {
        if (!isPair(a, b) || !isDay(day)) {
            return NONE;
        }
        shares.load(book, day);
        return shares.percents[a * MAX_MEMBERS + b];
    }

    public int share(int a, int b, int day) {
        if (!areMembers(a, b) || !isDay(day)) {
            return NONE;
        }
        shares.load(book, day);
        return bitsOf(shares.parts[a * MAX_MEMBERS + b]);
    }

    public int parts(int a, int b, int day) {
        if (!areMembers(a, b) || !isDay(day)) {
            return NONE;
        }
        shares.load(book, day);
        double part = shares.parts[a * MAX_MEMBERS + b];
        return (int) (part * 10000.0 + 0.5);
    }

    public int controls(int a, int b, int day) {
        if (!isPair(a, b) || !isDay(day)) {
            return NONE;
        }
        shares.load(book, day);
        shares.judge(book.gate);
        return (shares.ruled[a] >> b) & 1;
    }

    public int related(int member, int day) {
        if (!book.hasMember(member) || !isDay(day)) {
            return NONE;
        }
        shares.load(book, day);
        shares.judge(book.gate);
        return shares.relativesOf(member);
    }

    public int groups(int day) {
        if (!isDay(day)) {
            return NONE;
        }
        shares.load(book, day);
        shares.judge(book.gate);
        return shares.countGroups();
    }

    public int days(int a, int b, int what) {
        if (!isPair(a, b) || what < 0 || what > 2) {
            return NONE;
        }
        refreshNet();
        if (what == 0) {
            return kin.firstDay(a, b);
        }
        return what == 1 ? kin.lastDay(a, b) : kin.daysTogether(a, b, 0, LAST_DAY);
    }

    public int steps(int a, int b, int day) {
        if (!areMembers(a, b) || !isDay(day)) {
            return NONE;
        }
        shares.load(book, day);
        return shares.stepsBetween(a, b);
    }

    public int own(int a, int b, int percent, int day) {
        if (!isPair(a, b) || a > b || !isDay(day) || percent < 0 || percent > MAX_PERCENT) {
            return NONE;
        }
        if (book.parts.count >= MAX_OWNS) {
            return NOT_SO_MANY;
        }
        book.parts.add(a, b, percent, day);
        forgetNet();
        refreshNet();
        if (claimsExceedBounds()) {
            book.parts.dropLast();
            forgetNet();
            return BEYOND;
        }
        history.push(History.OWNED, 0, 0, 0, 0);
        return book.parts.count;
    }

    private boolean claimsExceedBounds() {
        for (int k = 0; k < claims.count; k++) {
            int i = claims.losses[k];
            int j = claims.profits[k];
            if (claims.takenOn(i, j) > net.bounds[i * MAX_PERIODS + j]) {
                return true;
            }
        }
        return false;
    }

    // ---- LINKS ----

    public int shared(int i, int j) {
        if (!book.hasPeriod(i) || !book.hasPeriod(j) || book.owner[i] == book.owner[j]) {
            return NONE;
        }
        refreshNet();
        int from = Math.max(book.first[i], book.first[j]);
        int to = Math.min(book.last[i], book.last[j]);
        return kin.daysTogether(book.owner[i], book.owner[j], from, to);
    }

    public int bound(int i, int j) {
        return isLink(i, j) ? net.bounds[i * MAX_PERIODS + j] : NONE;
    }

    public int room(int i, int j) {
        return isLink(i, j) ? net.bounds[i * MAX_PERIODS + j] - claims.takenOn(i, j) : NONE;
    }

    public int price(int i, int j) {
        return isLink(i, j) ? net.prices[i * MAX_PERIODS + j] : NONE;
    }

    // ---- CLAIMS ----

    public int claim(int i, int j, int n) {
        int answer = enter(claims, i, j, n);
        if (answer >= 0) {
            history.push(History.CLAIMED, 1, 0, 0, 0);
            flowFresh = false;
        }
        return answer;
    }

    private int enter(Ledger ledger, int i, int j, int n) {
        if (n < 1 || n > MAX_AMOUNT || !isLink(i, j)) {
            return NONE;
        }
        if (ledger.count >= MAX_CLAIMS) {
            return NOT_SO_MANY;
        }
        int room = net.bounds[i * MAX_PERIODS + j] - ledger.takenOn(i, j);
        if (n > room || n > openOf(ledger, i) || n > openOf(ledger, j)) {
            return BEYOND;
        }
        ledger.insert(ledger.count, i, j, n);
        return ledger.count - 1;
    }

    public int withdraw(int claim) {
        if (!claims.has(claim)) {
            return NONE;
        }
        int amount = claims.amounts[claim];
        history.push(History.WITHDRAWN, claim, claims.losses[claim], claims.profits[claim], amount);
        claims.remove(claim);
        flowFresh = false;
        return amount;
    }

    public int claimed(int claim, int what) {
        if (!claims.has(claim)) {
            return NONE;
        }
        int i = claims.losses[claim];
        int j = claims.profits[claim];
        switch (what) {
            case 0:
                return i;
            case 1:
                return j;
            case 2:
                return claims.amounts[claim];
            case 3:
                return book.paidFor(i, j, claims.amounts[claim]);
            default:
                return NONE;
        }
    }

    public int claimAll() {
        refreshFlow();
        int came = 0;
        for (int i = 0; i < book.periods; i++) {
            for (int j = 0; j < book.periods; j++) {
                int amount = flow.relief[i * MAX_PERIODS + j];
                if (amount > 0 && claims.count < MAX_CLAIMS) {
                    claims.insert(claims.count, i, j, amount);
                    came++;
                }
            }
        }
        if (came > 0) {
            history.push(History.CLAIMED, came, 0, 0, 0);
            flowFresh = false;
        }
        return came;
    }

    public boolean result(int period, int v) {
        if (!book.hasPeriod(period) || v < -MAX_AMOUNT || v > MAX_AMOUNT || claims.touches(period)) {
            return false;
        }
        history.push(History.RESULTED, period, book.results[period], 0, 0);
        book.results[period] = v;
        forgetNet();
        return true;
    }

    // ---- RELIEF ----

    public int relief(int i, int j) {
        if (!isLink(i, j)) {
            return NONE;
        }
        refreshFlow();
        return flow.relief[i * MAX_PERIODS + j];
    }

    public long solved(int what) {
        if (what < 0 || what > 3) {
            return NONE;
        }
        refreshFlow();
        switch (what) {
            case 0:
                return flow.total;
            case 1:
                return flow.totalPrice();
            case 2:
                return flow.routes;
            default:
                return flow.usedLinks();
        }
    }

    public int reached() {
        refreshFlow();
        return flow.reachedBits();
    }

    public int left(int period) {
        if (!book.hasPeriod(period)) {
            return NONE;
        }
        refreshFlow();
        return flow.left[period];
    }

    public int route(int k) {
        if (k < 0) {
            return NONE;
        }
        refreshFlow();
        return k < flow.firstLength ? flow.firstPath[k] : NOT_SO_MANY;
    }

    public int dearest() {
        refreshFlow();
        int best = NOT_SO_MANY;
        int bestPrice = -1;
        for (int i = 0; i < book.periods; i++) {
            for (int j = 0; j < book.periods; j++) {
                int at = i * MAX_PERIODS + j;
                if (flow.relief[at] > 0 && net.prices[at] > bestPrice) {
                    bestPrice = net.prices[at];
                    best = 16 * i + j;
                }
            }
        }
        return best;
    }

    public int carried(int what) {
        if (what < 0 || what > 3) {
            return NONE;
        }
        boolean carries = (what & 1) == 0;
        if (what >= 2) {
            return claimsOn(carries);
        }
        refreshFlow();
        return reliefOn(carries);
    }

    private int claimsOn(boolean carries) {
        int sum = 0;
        for (int k = 0; k < claims.count; k++) {
            if (book.isOneMembers(claims.losses[k], claims.profits[k]) == carries) {
                sum += claims.amounts[k];
            }
        }
        return sum;
    }

    private int reliefOn(boolean carries) {
        int sum = 0;
        for (int i = 0; i < book.periods; i++) {
            for (int j = 0; j < book.periods; j++) {
                if (book.isOneMembers(i, j) == carries) {
                    sum += flow.relief[i * MAX_PERIODS + j];
                }
            }
        }
        return sum;
    }

    // ---- what MEMBERS pay ----

    public int pays(int member, int what) {
        if (!book.hasMember(member)) {
            return NONE;
        }
        refreshFlow();
        switch (what) {
            case 0:
                return paidForRelief(member, ANYONE);
            case 1:
                return paidForRelief(ANYONE, member);
            case 2:
                return paidForClaims(member, ANYONE);
            case 3:
                return paidForClaims(ANYONE, member);
            default:
                return NONE;
        }
    }

    public int balance(int member) {
        if (!book.hasMember(member)) {
            return NO_BALANCE;
        }
        refreshFlow();
        return paidInAll(ANYONE, member) - paidInAll(member, ANYONE);
    }

    public int owes(int a, int b) {
        if (!isPair(a, b)) {
            return NO_BALANCE;
        }
        refreshFlow();
        return paidInAll(a, b) - paidInAll(b, a);
    }

    public int settles() {
        settle();
        return payments.count;
    }

    public int settling(int k, int what) {
        if (k < 0 || what < 0 || what > 2) {
            return NONE;
        }
        settle();
        if (k >= payments.count) {
            return NOT_SO_MANY;
        }
        if (what == 0) {
            return payments.payers[k];
        }
        return what == 1 ? payments.payees[k] : payments.amounts[k];
    }

    private void settle() {
        refreshFlow();
        for (int m = 0; m < book.members; m++) {
            payments.balances[m] = paidInAll(ANYONE, m) - paidInAll(m, ANYONE);
        }
        payments.run(book.members);
    }

    private int paidInAll(int payer, int payee) {
        return paidForRelief(payer, payee) + paidForClaims(payer, payee);
    }

    private int paidForRelief(int payer, int payee) {
        int sum = 0;
        for (int i = 0; i < book.periods; i++) {
            for (int j = 0; j < book.periods; j++) {
                int amount = flow.relief[i * MAX_PERIODS + j];
                if (amount > 0 && book.isBetween(i, j, payer, payee)) {
                    sum += book.paidFor(i, j, amount);
                }
            }
        }
        return sum;
    }

    private int paidForClaims(int payer, int payee) {
        int sum = 0;
        for (int k = 0; k < claims.count; k++) {
            int i = claims.losses[k];
            int j = claims.profits[k];
            if (book.isBetween(i, j, payer, payee)) {
                sum += book.paidFor(i, j, claims.amounts[k]);
            }
        }
        return sum;
    }

    public int tax(int member) {
        if (!book.hasMember(member)) {
            return NONE;
        }
        refreshFlow();
        int sum = 0;
        for (int p = 0; p < book.periods; p++) {
            if (book.owner[p] == member && book.results[p] > 0) {
                sum += flow.left[p] * book.rates[member] / 100;
            }
        }
        return sum;
    }

    // ---- as if it were otherwise ----

    public int without(int member) {
        if (!book.hasMember(member)) {
            return NONE;
        }
        refreshNet();
        trialFlow.load(book, net, claims, book.periodsOf(member));
        trialFlow.run();
        return trialFlow.total;
    }

    public int worth(int i, int j, int m) {
        return m < 1 || m > MAX_AMOUNT || !isLink(i, j) ? NONE : gainByRoom(i, j, m);
    }

    public int lack(int i, int j, int m) {
        return m < 1 || m > MAX_AMOUNT || !isLink(i, j) ? NONE : -gainByRoom(i, j, -m);
    }

    private int gainByRoom(int i, int j, int more) {
        refreshFlow();
        trialFlow.load(book, net, claims, 0);
        int at = i * MAX_PERIODS + j;
        trialFlow.room[at] = Math.max(0, trialFlow.room[at] + more);
        trialFlow.run();
        return trialFlow.total - flow.total;
    }

    public int byCarry(int c) {
        if (c < 0 || c > 1) {
            return NONE;
        }
        refreshNet();
        return reliefWithoutClaims(kin, c, book.first);
    }

    public int byGate(int g) {
        return g < 1 || g > MAX_GATE ? NONE : reliefByGate(g);
    }

    /* A higher GATE never makes more RELATED, so RELIEF never grows with it: halving finds the greatest. */
    public int gateFor(int n) {
        if (n < 0 || n > MAX_WANTED) {
            return NONE;
        }
        int low = 0;
        int high = MAX_GATE;
        for (int k = 0; k < MAX_GATE && low < high; k++) {
            int middle = (low + high + 1) / 2;
            if (reliefByGate(middle) >= n) {
                low = middle;
            } else {
                high = middle - 1;
            }
        }
        return low == 0 ? NOT_SO_MANY : low;
    }

    private int reliefByGate(int gate) {
        trialKin.fill(book, gate, shares);
        return reliefWithoutClaims(trialKin, book.carry, book.first);
    }

    public int ifFirst(int period, int d) {
        if (!book.hasPeriod(period) || d < 0 || d > book.last[period]) {
            return NONE;
        }
        if (book.overlaps(book.owner[period], d, book.last[period], period)) {
            return NOT_SO_MANY;
        }
        System.arraycopy(book.first, 0, trialFirst, 0, MAX_PERIODS);
        trialFirst[period] = d;
        refreshNet();
        return reliefWithoutClaims(kin, book.carry, trialFirst);
    }

    private int reliefWithoutClaims(Kin relatives, int carry, int[] first) {
        trialClaims.clear();
        trialNet.fill(book, relatives, carry, first);
        trialFlow.load(book, trialNet, trialClaims, 0);
        trialFlow.run();
        return trialFlow.total;
    }

    public int chance(int seed, int n, int what) {
        if (seed < -1 || n < 1 || n > MAX_CHANCES || what < 0 || what > 2 || book.periods < 1) {
            return NONE;
        }
        trialClaims.copy(claims);
        int number = seed == -1 ? book.seed : seed;
        int sum = 0;
        for (int k = 0; k < n; k++) {
            number = nextNumber(number);
            int i = drawn(number, book.periods);
            number = nextNumber(number);
            int j = drawn(number, book.periods);
            number = nextNumber(number);
            int amount = drawn(number, 1000) + 1;
            if (enter(trialClaims, i, j, amount) >= 0) {
                sum += amount;
            }
        }
        if (what < 2) {
            return what == 0 ? trialClaims.count - claims.count : sum;
        }
        refreshNet();
        trialFlow.load(book, net, trialClaims, 0);
        trialFlow.run();
        return trialFlow.total;
    }

    private static int nextNumber(int number) {
        return (number * 1103515245 + 12345) & 0x7FFFFFFF;
    }

    private static int drawn(int number, int modulo) {
        return modulo < 1 ? 0 : (number >> 16) % modulo;
    }

    // ---- undone, IMAGES ----

    public int undo() {
        if (history.count == 0) {
            return NONE;
        }
        int row = history.pop();
        int[] rows = history.rows;
        switch (rows[row]) {
            case History.CLAIMED:
                claims.count = Math.max(0, claims.count - rows[row + 1]);
                break;
            case History.WITHDRAWN:
                claims.insert(rows[row + 1], rows[row + 2], rows[row + 3], rows[row + 4]);
                break;
            case History.RESULTED:
                book.results[rows[row + 1]] = rows[row + 2];
                break;
            default:
                book.parts.dropLast();
                break;
        }
        forgetNet();
        return history.count;
    }

    public int keep() {
        image.kept = true;
        image.claims.copy(claims);
        image.parts.copy(book.parts);
        System.arraycopy(book.results, 0, image.results, 0, MAX_PERIODS);
        return claims.count;
    }

    public int back() {
        if (!image.kept) {
            return NONE;
        }
        claims.copy(image.claims);
        book.parts.copy(image.parts);
        System.arraycopy(image.results, 0, book.results, 0, MAX_PERIODS);
        history.clear();
        forgetNet();
        return claims.count;
    }

    public int count(int what) {
        switch (what) {
            case 0:
                return book.members;
            case 1:
                return book.periods;
            case 2:
                return book.parts.count;
            case 3:
                return claims.count;
            case 4:
                return book.gate;
            case 5:
                return book.pricing;
            case 6:
                return book.countSigned(-1);
            case 7:
                return book.countSigned(1);
            case 8:
                return history.count;
            case 9:
                return reader.fed;
            case 10:
                return book.carry;
            default:
                return NONE;
        }
    }

    // ---- shared by the calls ----

    private void forgetNet() {
        netFresh = false;
        flowFresh = false;
    }

    private void refreshNet() {
        if (!netFresh) {
            kin.fill(book, book.gate, shares);
            net.fill(book, kin, book.carry, book.first);
            netFresh = true;
        }
    }

    private void refreshFlow() {
        refreshNet();
        if (!flowFresh) {
            flow.load(book, net, claims, 0);
            flow.run();
            flowFresh = true;
        }
    }

    private boolean isLink(int i, int j) {
        if (!book.hasPeriod(i) || !book.hasPeriod(j)) {
            return false;
        }
        refreshNet();
        return net.bounds[i * MAX_PERIODS + j] >= 0;
    }

    private int openOf(Ledger ledger, int period) {
        return Math.abs(book.results[period]) - ledger.takenOf(period);
    }

    private boolean areMembers(int a, int b) {
        return book.hasMember(a) && book.hasMember(b);
    }

    private boolean isPair(int a, int b) {
        return a != b && areMembers(a, b);
    }

    private static boolean isDay(int day) {
        return day >= 0 && day <= LAST_DAY;
    }

    /* The library's own conversion lies outside the rules, so exponent and fraction are found by doubling. */
    private static int bitsOf(float number) {
        if (!(number > 0f)) {
            return 0;
        }
        float rest = number;
        int exponent = 127;
        for (int k = 0; k < 127 && rest >= 2f; k++) {
            rest = rest / 2f;
            exponent++;
        }
        for (int k = 0; k < 126 && rest < 1f; k++) {
            rest = rest * 2f;
            exponent--;
        }
        return (exponent << 23) | (int) ((rest - 1f) * 8388608f);
    }

    /** Who owns how much of whom, in the order in which it was told. */
    private static final class Parts {
        final int[] owners = new int[MAX_OWNS];
        final int[] owned = new int[MAX_OWNS];
        final int[] percents = new int[MAX_OWNS];
        final int[] since = new int[MAX_OWNS];
        int count = 0;

        void add(int a, int b, int percent, int day) {
            if (count < MAX_OWNS) {
                owners[count] = a;
                owned[count] = b;
                percents[count] = percent;
                since[count] = day;
                count++;
            }
        }

        void dropLast() {
            count = Math.max(0, count - 1);
        }

        void copy(Parts other) {
            System.arraycopy(other.owners, 0, owners, 0, MAX_OWNS);
            System.arraycopy(other.owned, 0, owned, 0, MAX_OWNS);
            System.arraycopy(other.percents, 0, percents, 0, MAX_OWNS);
            System.arraycopy(other.since, 0, since, 0, MAX_OWNS);
            count = other.count;
        }
    }

    /** What the TEXT tells, with the RESULTS and parts that have become otherwise since. */
    private static final class Book {
        final int[] names = new int[MAX_MEMBERS];
        final int[] asks = new int[MAX_MEMBERS];
        final int[] rates = new int[MAX_MEMBERS];
        final int[] owner = new int[MAX_PERIODS];
        final int[] first = new int[MAX_PERIODS];
        final int[] last = new int[MAX_PERIODS];
        final int[] results = new int[MAX_PERIODS];
        final Parts parts = new Parts();
        int members = 0;
        int periods = 0;
        int gate = USUAL_GATE;
        int pricing = 0;
        int carry = 0;
        int seed = 0;

        void clear() {
            members = 0;
            periods = 0;
            parts.count = 0;
            gate = USUAL_GATE;
            pricing = 0;
            carry = 0;
            seed = 0;
        }

        boolean hasMember(int m) {
            return m >= 0 && m < members;
        }

        boolean hasPeriod(int p) {
            return p >= 0 && p < periods;
        }

        int find(int letters) {
            for (int m = 0; m < members; m++) {
                if (names[m] == letters) {
                    return m;
                }
            }
            return NONE;
        }

        int periodsOf(int m) {
            int bits = 0;
            for (int p = 0; p < periods; p++) {
                if (owner[p] == m) {
                    bits |= 1 << p;
                }
            }
            return bits;
        }

        /* -1 for a LOSS, 1 for a PROFIT, 0 for neither. */
        int signOf(int p) {
            if (results[p] == 0) {
                return 0;
            }
            return results[p] < 0 ? -1 : 1;
        }

        int countSigned(int sign) {
            int n = 0;
            for (int p = 0; p < periods; p++) {
                if (signOf(p) == sign) {
                    n++;
                }
            }
            return n;
        }

        boolean overlaps(int m, int from, int to, int except) {
            for (int p = 0; p < periods; p++) {
                if (p != except && owner[p] == m && first[p] <= to && last[p] >= from) {
                    return true;
                }
            }
            return false;
        }

        boolean isOneMembers(int i, int j) {
            return owner[i] == owner[j];
        }

        boolean isBetween(int loss, int profit, int payer, int payee) {
            return (payer == ANYONE || owner[profit] == payer) && (payee == ANYONE || owner[loss] == payee);
        }

        int paidFor(int loss, int profit, int amount) {
            return isOneMembers(loss, profit) ? 0 : amount * asks[owner[loss]] / 100;
        }

        int priceOf(int loss, int profit) {
            int asked = asks[owner[loss]];
            int rate = rates[owner[profit]];
            if (isOneMembers(loss, profit)) {
                return 0;
            }
            if (pricing == 0) {
                return asked;
            }
            return pricing == 1 ? asked + 99 - rate : Math.abs(asked - rate);
        }
    }

    /** The TAPE, and the reading of it as a TEXT, token by token, up to the first FAULT. */
    private static final class Reader {
        static final int END = 0;
        static final int LINE_WORD = 1;
        static final int NAME = 2;
        static final int DIGITS = 3;
        static final int NEGATIVE = 4;
        static final int SEMICOLON = 5;
        static final int NO_TOKEN = 6;

        static final int OUT_OF_PLACE = 1;
        static final int TOO_MUCH = 2;
        static final int TOLD_ALREADY = 3;
        static final int NOT_TOLD = 4;

        /* As letters of five bits: member, owns, period, gate, price, carry, seed. */
        static final int[] LINE_WORDS = {
            13 << 25 | 5 << 20 | 13 << 15 | 2 << 10 | 5 << 5 | 18,
            15 << 25 | 23 << 20 | 14 << 15 | 19 << 10,
            16 << 25 | 5 << 20 | 18 << 15 | 9 << 10 | 15 << 5 | 4,
            7 << 25 | 1 << 20 | 20 << 15 | 5 << 10,
            16 << 25 | 18 << 20 | 9 << 15 | 3 << 10 | 5 << 5,
            3 << 25 | 1 << 20 | 18 << 15 | 18 << 10 | 25 << 5,
            19 << 25 | 5 << 20 | 5 << 15 | 4 << 10
        };
        static final int MEMBER = 0;
        static final int OWNS = 1;
        static final int PERIOD = 2;
        static final int GATE = 3;
        static final int PRICE = 4;
        static final int CARRY = 5;

        final byte[] tape = new byte[MAX_TAPE];
        int fed = 0;
        int length = 0;
        int at = 0;
        int kind = END;
        int start = 0;
        int value = 0;
        int lines = 0;
        int told = 0;
        int fault = 0;
        int place = NONE;

        void put(int number) {
            for (int shift = 24; shift >= 0; shift -= 8) {
                if (fed < MAX_TAPE) {
                    tape[fed] = (byte) (number >> shift);
                    fed++;
                }
            }
        }

        boolean read(Book book, int n) {
            length = n;
            at = 0;
            fed = 0;
            lines = 0;
            told = 0;
            fault = 0;
            place = NONE;
            book.clear();
            next();
            for (int k = 0; k < MAX_TAPE && kind != END; k++) {
                if (!readLine(book) || !expect(SEMICOLON)) {
                    return false;
                }
                lines++;
                next();
            }
            return true;
        }

        private boolean fail(int kindOfFault) {
            fault = kindOfFault;
            place = start;
            return false;
        }

        private boolean expect(int wanted) {
            next();
            return kind == wanted || fail(OUT_OF_PLACE);
        }

        private boolean expectNumber(int low, int high) {
            next();
            if (kind != DIGITS && (kind != NEGATIVE || low >= 0)) {
                return fail(OUT_OF_PLACE);
            }
            return value >= low && value <= high || fail(TOO_MUCH);
        }

        private boolean expectMember(Book book) {
            next();
            if (kind != NAME) {
                return fail(OUT_OF_PLACE);
            }
            value = book.find(value);
            return value >= 0 || fail(NOT_TOLD);
        }

        private boolean readLine(Book book) {
            if (kind != LINE_WORD) {
                return fail(OUT_OF_PLACE);
            }
            switch (value) {
                case MEMBER:
                    return readMember(book);
                case OWNS:
                    return readOwns(book);
                case PERIOD:
                    return readPeriod(book);
                default:
                    return readSetting(book, value);
            }
        }

        private boolean readMember(Book book) {
            int m = book.members;
            if (m >= MAX_MEMBERS) {
                return fail(TOO_MUCH);
            }
            if (!expect(NAME)) {
                return false;
            }
            if (book.find(value) >= 0) {
                return fail(TOLD_ALREADY);
            }
            book.names[m] = value;
            if (!expectNumber(0, 99)) {
                return false;
            }
            book.asks[m] = value;
            if (!expectNumber(0, 99)) {
                return false;
            }
            book.rates[m] = value;
            book.members = m + 1;
            return true;
        }

        private boolean readOwns(Book book) {
            if (book.parts.count >= MAX_TOLD_OWNS) {
                return fail(TOO_MUCH);
            }
            if (!expectMember(book)) {
                return false;
            }
            int a = value;
            if (!expectMember(book)) {
                return false;
            }
            int b = value;
            if (b <= a) {
                return fail(TOO_MUCH);
            }
            if (!expectNumber(0, MAX_PERCENT)) {
                return false;
            }
            int percent = value;
            if (!expectNumber(0, LAST_DAY)) {
                return false;
            }
            book.parts.add(a, b, percent, value);
            return true;
        }

        private boolean readPeriod(Book book) {
            int p = book.periods;
            if (p >= MAX_PERIODS) {
                return fail(TOO_MUCH);
            }
            if (!expectMember(book)) {
                return false;
            }
            book.owner[p] = value;
            if (!expectNumber(0, LAST_DAY)) {
                return false;
            }
            book.first[p] = value;
            if (!expectNumber(book.first[p], LAST_DAY)) {
                return false;
            }
            book.last[p] = value;
            if (book.overlaps(book.owner[p], book.first[p], value, p)) {
                return fail(TOLD_ALREADY);
            }
            if (!expectNumber(-MAX_AMOUNT, MAX_AMOUNT)) {
                return false;
            }
            book.results[p] = value;
            book.periods = p + 1;
            return true;
        }

        private boolean readSetting(Book book, int word) {
            if ((told >> word & 1) == 1) {
                return fail(TOLD_ALREADY);
            }
            told |= 1 << word;
            switch (word) {
                case GATE:
                    if (!expectNumber(1, MAX_GATE)) {
                        return false;
                    }
                    book.gate = value;
                    return true;
                case PRICE:
                    if (!expectNumber(0, 2)) {
                        return false;
                    }
                    book.pricing = value;
                    return true;
                case CARRY:
                    if (!expectNumber(0, 1)) {
                        return false;
                    }
                    book.carry = value;
                    return true;
                default:
                    if (!expectNumber(0, MAX_SEED)) {
                        return false;
                    }
                    book.seed = value;
                    return true;
            }
        }

        private void next() {
            for (int k = 0; k < MAX_TAPE && isBlank(sign()); k++) {
                at++;
            }
            start = at;
            int sign = sign();
            if (at >= length) {
                kind = END;
            } else if (isLetter(sign)) {
                readWord();
            } else if (isDigit(sign) || sign == '-') {
                readNumber();
            } else {
                kind = sign == ';' ? SEMICOLON : NO_TOKEN;
                at++;
            }
        }

        private void readWord() {
            int letters = 0;
            int code = 0;
            for (int k = 0; k < MAX_TAPE && isLetter(sign()); k++) {
                if (letters < 6) {
                    code |= (sign() - 'a' + 1) << (25 - 5 * letters);
                }
                letters++;
                at++;
            }
            kind = letters > 6 ? NO_TOKEN : NAME;
            value = code;
            for (int word = 0; kind == NAME && word < LINE_WORDS.length; word++) {
                if (LINE_WORDS[word] == code) {
                    kind = LINE_WORD;
                    value = word;
                }
            }
        }

        /* Beyond every limit of the document a number need not grow, and so cannot wrap around. */
        private void readNumber() {
            boolean below = sign() == '-';
            if (below) {
                at++;
            }
            kind = below ? NEGATIVE : DIGITS;
            if (!isDigit(sign())) {
                kind = NO_TOKEN;
            }
            int number = 0;
            for (int k = 0; k < MAX_TAPE && isDigit(sign()); k++) {
                if (number < 1000000) {
                    number = number * 10 + sign() - '0';
                }
                at++;
            }
            value = below ? -number : number;
        }

        private int sign() {
            return at >= 0 && at < length && at < MAX_TAPE ? tape[at] : 0;
        }

        private static boolean isBlank(int sign) {
            return sign == 10 || sign == 32;
        }

        private static boolean isLetter(int sign) {
            return sign >= 'a' && sign <= 'z';
        }

        private static boolean isDigit(int sign) {
            return sign >= '0' && sign <= '9';
        }
    }

    /** CLAIMS in the order of their numbers. */
    private static final class Ledger {
        final int[] losses = new int[MAX_CLAIMS];
        final int[] profits = new int[MAX_CLAIMS];
        final int[] amounts = new int[MAX_CLAIMS];
        int count = 0;

        void clear() {
            count = 0;
        }

        boolean has(int k) {
            return k >= 0 && k < count;
        }

        void copy(Ledger other) {
            System.arraycopy(other.losses, 0, losses, 0, MAX_CLAIMS);
            System.arraycopy(other.profits, 0, profits, 0, MAX_CLAIMS);
            System.arraycopy(other.amounts, 0, amounts, 0, MAX_CLAIMS);
            count = other.count;
        }

        void insert(int k, int i, int j, int amount) {
            if (k < 0 || k > count || count >= MAX_CLAIMS) {
                return;
            }
            for (int at = count; at > k; at--) {
                losses[at] = losses[at - 1];
                profits[at] = profits[at - 1];
                amounts[at] = amounts[at - 1];
            }
            losses[k] = i;
            profits[k] = j;
            amounts[k] = amount;
            count++;
        }

        void remove(int k) {
            if (!has(k)) {
                return;
            }
            count--;
            for (int at = k; at < count; at++) {
                losses[at] = losses[at + 1];
                profits[at] = profits[at + 1];
                amounts[at] = amounts[at + 1];
            }
        }

        int takenOf(int period) {
            int sum = 0;
            for (int k = 0; k < count; k++) {
                if (losses[k] == period || profits[k] == period) {
                    sum += amounts[k];
                }
            }
            return sum;
        }

        boolean touches(int period) {
            return takenOf(period) > 0;
        }

        int takenOn(int i, int j) {
            int sum = 0;
            for (int k = 0; k < count; k++) {
                if (losses[k] == i && profits[k] == j) {
                    sum += amounts[k];
                }
            }
            return sum;
        }
    }

    /** What can be undone: rows of a kind and what stood before. */
    private static final class History {
        static final int CLAIMED = 0;
        static final int WITHDRAWN = 1;
        static final int RESULTED = 2;
        static final int OWNED = 3;
        static final int WIDTH = 5;

        final int[] rows = new int[MAX_UNDO * WIDTH];
        int count = 0;

        void clear() {
            count = 0;
        }

        void push(int kind, int a, int b, int c, int d) {
            if (count >= MAX_UNDO) {
                System.arraycopy(rows, WIDTH, rows, 0, (MAX_UNDO - 1) * WIDTH);
                count = MAX_UNDO - 1;
            }
            int row = count * WIDTH;
            rows[row] = kind;
            rows[row + 1] = a;
            rows[row + 2] = b;
            rows[row + 3] = c;
            rows[row + 4] = d;
            count++;
        }

        /* Answers where the latest row begins; only for a history that is not empty. */
        int pop() {
            count = Math.max(0, count - 1);
            return count * WIDTH;
        }
    }

    /** What keep() keeps. */
    private static final class Image {
        final Ledger claims = new Ledger();
        final Parts parts = new Parts();
        final int[] results = new int[MAX_PERIODS];
        boolean kept = false;
    }

    /** PERCENT, SHARE and who CONTROLS whom on one DAY, as tables of eight by eight; owners have the lesser numbers. */
    private static final class Shares {
        final int[] percents = new int[MAX_MEMBERS * MAX_MEMBERS];
        final int[] since = new int[MAX_MEMBERS * MAX_MEMBERS];
        final float[] parts = new float[MAX_MEMBERS * MAX_MEMBERS];
        final int[] ruled = new int[MAX_MEMBERS];
        final int[] distance = new int[MAX_MEMBERS];
        int members = 0;

        void load(Book book, int day) {
            members = book.members;
            loadPercents(book.parts, day);
            for (int a = 0; a < members; a++) {
                loadParts(a);
            }
        }

        private void loadPercents(Parts told, int day) {
            for (int a = 0; a < members; a++) {
                for (int b = a + 1; b < members; b++) {
                    percents[a * MAX_MEMBERS + b] = 0;
                    since[a * MAX_MEMBERS + b] = -1;
                }
            }
            for (int k = 0; k < told.count; k++) {
                int at = told.owners[k] * MAX_MEMBERS + told.owned[k];
                if (told.since[k] <= day && told.since[k] >= since[at]) {
                    since[at] = told.since[k];
                    percents[at] = told.percents[k];
                }
            }
        }

        private void loadParts(int a) {
            int row = a * MAX_MEMBERS;
            parts[row + a] = 1f;
            for (int b = a + 1; b < members; b++) {
                float sum = 0f;
                for (int c = a; c < b; c++) {
                    sum = sum + parts[row + c] * ((float) percents[c * MAX_MEMBERS + b] / 100f);
                }
                parts[row + b] = sum;
            }
        }

        void judge(int gate) {
            for (int a = 0; a < members; a++) {
                ruled[a] = 0;
                for (int b = a + 1; b < members; b++) {
                    if (parts[a * MAX_MEMBERS + b] * 100f >= (float) gate) {
                        ruled[a] |= 1 << b;
                    }
                }
            }
        }

        /* One who CONTROLS a MEMBER is RELATED to it, and so is all else that one CONTROLS. */
        int relativesOf(int member) {
            int bits = ruled[member];
            for (int a = 0; a < member; a++) {
                if ((ruled[a] >> member & 1) == 1) {
                    bits |= ruled[a] | 1 << a;
                }
            }
            return bits & ~(1 << member);
        }

        int countGroups() {
            int seen = 0;
            int groups = 0;
            for (int m = 0; m < members; m++) {
                if ((seen >> m & 1) == 0) {
                    seen |= groupOf(m);
                    groups++;
                }
            }
            return groups;
        }

        private int groupOf(int member) {
            int group = 1 << member;
            for (int round = 0; round < members; round++) {
                for (int m = 0; m < members; m++) {
                    if ((group >> m & 1) == 1) {
                        group |= relativesOf(m);
                    }
                }
            }
            return group;
        }

        /* Owning goes from lesser to greater numbers alone, so one pass in their order finds the fewest. */
        int stepsBetween(int a, int b) {
            for (int m = 0; m < members; m++) {
                distance[m] = m == a ? 0 : NOT_SO_MANY;
                for (int c = a; c < m; c++) {
                    boolean leads = distance[c] >= 0 && percents[c * MAX_MEMBERS + m] > 0;
                    if (leads && (distance[m] < 0 || distance[c] + 1 < distance[m])) {
                        distance[m] = distance[c] + 1;
                    }
                }
            }
            return distance[b];
        }
    }

    /** Who is RELATED to whom, by stretches of DAYS on which nothing changes. */
    private static final class Kin {
        final int[] starts = new int[MAX_OWNS + 1];
        final int[] relatives = new int[(MAX_OWNS + 1) * MAX_MEMBERS];
        int stretches = 0;

        void fill(Book book, int gate, Shares shares) {
            starts[0] = 0;
            stretches = 1;
            for (int k = 0; k < book.parts.count; k++) {
                addStart(book.parts.since[k]);
            }
            for (int s = 0; s < stretches; s++) {
                shares.load(book, starts[s]);
                shares.judge(gate);
                for (int m = 0; m < book.members; m++) {
                    relatives[s * MAX_MEMBERS + m] = shares.relativesOf(m);
                }
            }
        }

        private void addStart(int day) {
            int at = stretches;
            for (int k = stretches; k > 0 && starts[at - 1] >= day; k--) {
                at--;
                if (starts[at] == day) {
                    return;
                }
            }
            for (int k = stretches; k > at && k < starts.length; k--) {
                starts[k] = starts[k - 1];
            }
            starts[at] = day;
            stretches++;
        }

        private int endOf(int stretch) {
            return stretch + 1 < stretches ? starts[stretch + 1] - 1 : LAST_DAY;
        }

        private boolean isTogether(int stretch, int a, int b) {
            return (relatives[stretch * MAX_MEMBERS + a] >> b & 1) == 1;
        }

        int daysTogether(int a, int b, int from, int to) {
            int sum = 0;
            for (int s = 0; s < stretches; s++) {
                int begin = Math.max(from, starts[s]);
                int end = Math.min(to, endOf(s));
                if (begin <= end && isTogether(s, a, b)) {
                    sum += end - begin + 1;
                }
            }
            return sum;
        }

        int firstDay(int a, int b) {
            for (int s = 0; s < stretches; s++) {
                if (isTogether(s, a, b)) {
                    return starts[s];
                }
            }
            return NOT_SO_MANY;
        }

        int lastDay(int a, int b) {
            for (int s = stretches - 1; s >= 0; s--) {
                if (isTogether(s, a, b)) {
                    return endOf(s);
                }
            }
            return NOT_SO_MANY;
        }
    }

    /** BOUND and PRICE of every LINK, twelve by twelve; BOUND is NONE where there is no LINK. */
    private static final class Net {
        final int[] bounds = new int[MAX_PERIODS * MAX_PERIODS];
        final int[] prices = new int[MAX_PERIODS * MAX_PERIODS];

        void fill(Book book, Kin kin, int carry, int[] first) {
            for (int i = 0; i < book.periods; i++) {
                for (int j = 0; j < book.periods; j++) {
                    int at = i * MAX_PERIODS + j;
                    bounds[at] = NONE;
                    prices[at] = 0;
                    if (book.results[i] < 0 && book.results[j] > 0) {
                        bounds[at] = boundOf(book, kin, carry, first, i, j);
                        prices[at] = book.priceOf(i, j);
                    }
                }
            }
        }

        private static int boundOf(Book book, Kin kin, int carry, int[] first, int i, int j) {
            int loss = -book.results[i];
            int profit = book.results[j];
            if (book.isOneMembers(i, j)) {
                return carry == 1 && first[j] > book.last[i] ? Math.min(loss, profit) : NONE;
            }
            int from = Math.max(first[i], first[j]);
            int to = Math.min(book.last[i], book.last[j]);
            int days = kin.daysTogether(book.owner[i], book.owner[j], from, to);
            int lossDays = Math.max(1, book.last[i] - first[i] + 1);
            int profitDays = Math.max(1, book.last[j] - first[j] + 1);
            return Math.min(loss * days / lossDays, profit * days / profitDays);
        }
    }

    /** RELIEF on LINKS, found ROUTE by ROUTE. */
    private static final class Flow {
        /* Every ROUTE uses something up; a run of them never comes near this. */
        static final int MANY_ROUTES = 1000000;

        final int[] side = new int[MAX_PERIODS];
        final int[] left = new int[MAX_PERIODS];
        final int[] room = new int[MAX_PERIODS * MAX_PERIODS];
        final int[] prices = new int[MAX_PERIODS * MAX_PERIODS];
        final int[] relief = new int[MAX_PERIODS * MAX_PERIODS];
        final int[] costs = new int[MAX_PERIODS];
        final int[] lengths = new int[MAX_PERIODS];
        final int[] path = new int[MAX_PERIODS];
        final int[] firstPath = new int[MAX_PERIODS];
        int pathLength = 0;
        int firstLength = 0;
        int periods = 0;
        int routes = 0;
        int total = 0;

        /* PERIODS whose bits are in gone are as if they were not there, and their CLAIMS neither. */
        void load(Book book, Net net, Ledger ledger, int gone) {
            periods = book.periods;
            for (int p = 0; p < periods; p++) {
                boolean there = (gone >> p & 1) == 0;
                side[p] = there ? book.signOf(p) : 0;
                left[p] = there ? Math.abs(book.results[p]) : 0;
                for (int j = 0; j < periods; j++) {
                    int at = p * MAX_PERIODS + j;
                    room[at] = Math.max(0, net.bounds[at]);
                    prices[at] = net.prices[at];
                }
            }
            for (int k = 0; k < ledger.count; k++) {
                int i = ledger.losses[k];
                int j = ledger.profits[k];
                if ((gone >> i & 1) == 0 && (gone >> j & 1) == 0) {
                    left[i] -= ledger.amounts[k];
                    left[j] -= ledger.amounts[k];
                    room[i * MAX_PERIODS + j] -= ledger.amounts[k];
                }
            }
        }

        void run() {
            for (int at = 0; at < relief.length; at++) {
                relief[at] = 0;
            }
            firstLength = 0;
            routes = 0;
            total = 0;
            boolean more = true;
            for (int k = 0; k < MANY_ROUTES && more; k++) {
                measure();
                more = findRoute();
                if (more) {
                    takeRoute();
                }
            }
        }

        /* From each PERIOD on to an end: the least COST and, of that, the fewest PERIODS (0: no way). */
        private void measure() {
            for (int p = 0; p < periods; p++) {
                costs[p] = 0;
                lengths[p] = side[p] > 0 && left[p] > 0 ? 1 : 0;
            }
            boolean moved = true;
            for (int round = 0; round <= periods && moved; round++) {
                moved = improveAll();
            }
        }

        private boolean improveAll() {
            boolean moved = false;
            for (int i = 0; i < periods; i++) {
                for (int j = 0; side[i] < 0 && j < periods; j++) {
                    int at = i * MAX_PERIODS + j;
                    if (side[j] > 0 && relief[at] < room[at]) {
                        moved |= improve(i, j, prices[at]);
                    }
                    if (side[j] > 0 && relief[at] > 0) {
                        moved |= improve(j, i, -prices[at]);
                    }
                }
            }
            return moved;
        }

        private boolean improve(int from, int to, int price) {
            if (lengths[to] == 0) {
                return false;
            }
            int cost = costs[to] + price;
            int length = lengths[to] + 1;
            if (lengths[from] != 0 && !isBetter(cost, length, from)) {
                return false;
            }
            costs[from] = cost;
            lengths[from] = length;
            return true;
        }

        private boolean isBetter(int cost, int length, int than) {
            return cost < costs[than] || cost == costs[than] && length < lengths[than];
        }

        private boolean findRoute() {
            int start = NONE;
            for (int p = 0; p < periods; p++) {
                boolean leads = side[p] < 0 && left[p] > 0 && lengths[p] > 0;
                if (leads && (start < 0 || isBetter(costs[p], lengths[p], start))) {
                    start = p;
                }
            }
            pathLength = 0;
            int here = start;
            for (int k = 0; k < MAX_PERIODS && here >= 0; k++) {
                path[k] = here;
                pathLength = k + 1;
                here = lengths[here] > 1 ? followerOf(here) : NONE;
            }
            return pathLength > 1 && lengths[path[pathLength - 1]] == 1;
        }

        /* The first by number of those that keep to the least COST and the fewest PERIODS. */
        private int followerOf(int here) {
            for (int p = 0; p < periods; p++) {
                int step = side[here] < 0 ? prices[here * MAX_PERIODS + p] : -prices[p * MAX_PERIODS + here];
                boolean measured = lengths[p] == lengths[here] - 1 && costs[p] + step == costs[here];
                if (measured && passable(here, p) > 0) {
                    return p;
                }
            }
            return NONE;
        }

        /* How much more can go from one PERIOD to the next: forth what ROOM leaves, back what RELIEF there is. */
        private int passable(int from, int to) {
            if (side[from] < 0 && side[to] > 0) {
                int at = from * MAX_PERIODS + to;
                return room[at] - relief[at];
            }
            return side[from] > 0 && side[to] < 0 ? relief[to * MAX_PERIODS + from] : 0;
        }

        private void takeRoute() {
            int end = path[pathLength - 1];
            int amount = Math.min(left[path[0]], left[end]);
            for (int k = 0; k + 1 < pathLength; k++) {
                amount = Math.min(amount, passable(path[k], path[k + 1]));
            }
            for (int k = 0; k + 1 < pathLength; k++) {
                if (side[path[k]] < 0) {
                    relief[path[k] * MAX_PERIODS + path[k + 1]] += amount;
                } else {
                    relief[path[k + 1] * MAX_PERIODS + path[k]] -= amount;
                }
            }
            left[path[0]] -= amount;
            left[end] -= amount;
            total += amount;
            if (routes == 0) {
                firstLength = pathLength;
                System.arraycopy(path, 0, firstPath, 0, MAX_PERIODS);
            }
            routes++;
        }

        long totalPrice() {
            long sum = 0;
            for (int i = 0; i < periods; i++) {
                for (int j = 0; j < periods; j++) {
                    int at = i * MAX_PERIODS + j;
                    sum += (long) prices[at] * relief[at];
                }
            }
            return sum;
        }

        int usedLinks() {
            int n = 0;
            for (int at = 0; at < relief.length; at++) {
                if (relief[at] > 0) {
                    n++;
                }
            }
            return n;
        }

        int reachedBits() {
            int bits = 0;
            for (int p = 0; p < periods; p++) {
                if (side[p] < 0 && left[p] > 0) {
                    bits |= 1 << p;
                }
            }
            for (int round = 0; round < periods; round++) {
                for (int p = 0; p < periods; p++) {
                    if ((bits >> p & 1) == 1) {
                        bits |= neighboursOf(p);
                    }
                }
            }
            return bits;
        }

        private int neighboursOf(int here) {
            int bits = 0;
            for (int p = 0; p < periods; p++) {
                if (passable(here, p) > 0) {
                    bits |= 1 << p;
                }
            }
            return bits;
        }
    }

    /** Payments that bring every BALANCE to 0. */
    private static final class Settling {
        final int[] balances = new int[MAX_MEMBERS];
        final int[] payers = new int[MAX_MEMBERS];
        final int[] payees = new int[MAX_MEMBERS];
        final int[] amounts = new int[MAX_MEMBERS];
        int count = 0;

        /* Each payment brings one BALANCE to 0 and the last one two, so there are fewer than MEMBERS. */
        void run(int members) {
            count = 0;
            for (int k = 0; k < members; k++) {
                int payer = 0;
                int payee = 0;
                for (int m = 1; m < members; m++) {
                    payer = balances[m] < balances[payer] ? m : payer;
                    payee = balances[m] > balances[payee] ? m : payee;
                }
                if (balances[payer] >= 0) {
                    return;
                }
                pay(payer, payee, Math.min(-balances[payer], balances[payee]));
            }
        }

        private void pay(int payer, int payee, int amount) {
            balances[payer] += amount;
            balances[payee] -= amount;
            payers[count] = payer;
            payees[count] = payee;
            amounts[count] = amount;
            count++;
        }
    }
}
