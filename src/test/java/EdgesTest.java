import java.util.function.Consumer;
import java.util.function.ToLongFunction;

/** The sentences of promises 1 to 50, one by one, at their edges; refused calls with all that stays. */
public final class EdgesTest {
    private static final int NONE = ReliefDesk.NONE;
    private static final int LEAST = Integer.MIN_VALUE;
    private static final int MOST = Integer.MAX_VALUE;
    private static final String FOUR = Bench.FOUR;
    private static final String SQUARE = Bench.SQUARE;
    /* The square with the greatest RESULTS. */
    private static final String WIDE = SQUARE.replace("100;", "99999;");
    private static final String TWO = "member a 0 0;member b 0 0;";
    /* As many MEMBERS, owns and PERIODS as there can be: LOSSES 0 .. 3, PROFITS 4 .. 7, behind them 9, 10, 11 by CARRIES. */
    private static final String FULL = full();
    private static final Bench BENCH = new Bench();

    public static void main(String[] args) {
        newObject();
        feeds();
        texts();
        faults();
        names();
        members();
        periods();
        percents();
        shares();
        controls();
        groups();
        sharedDays();
        links();
        claims();
        claimLimits();
        withdrawals();
        claimAlls();
        results();
        owns();
        ownsBeyondBounds();
        reliefs();
        leftAndReached();
        pays();
        owes();
        settlings();
        taxes();
        withoutOne();
        worths();
        byCarries();
        firstRoutes();
        steps();
        gates();
        gatesFor();
        days();
        firstDays();
        dearest();
        chances();
        undone();
        images();
        counts();
        profitsFirst();
        fullDesk();
        manyDays();
        askedBetween();
        askedFirst();
        refusedQuestions();
        BENCH.end(1, Bench.PROMISES);
    }

    private static void says(int promise, String sentence) {
        BENCH.says(promise, sentence);
    }

    private static void due(String what, long got, long want) {
        BENCH.due(what, got, want);
    }

    private static ReliefDesk desk(String text) {
        return BENCH.desk(text);
    }

    private static int[] args(int... numbers) {
        return numbers;
    }

    /** All there can be: CLAIMS, owns, a RESULT, an IMAGE, something to undo, a FAULT, bytes on the TAPE. */
    private static void busy(ReliefDesk x) {
        claimed(x);
        Bench.tell(x, "gate 0;");
        Bench.feedAll(x, "gate 1;");
    }

    private static void claimed(ReliefDesk x) {
        Bench.tell(x, SQUARE);
        x.own(0, 1, 85, 5);
        x.claim(0, 2, 10);
        x.keep();
        x.claim(1, 3, 20);
        x.withdraw(0);
        x.result(2, 90);
        x.claim(1, 2, 30);
    }

    private static ReliefDesk busy() {
        ReliefDesk x = new ReliefDesk();
        busy(x);
        return x;
    }

    private static String full() {
        StringBuilder text = new StringBuilder("gate 100;price 2;carry 1;seed 8;");
        for (char c = 'a'; c <= 'h'; c++) {
            text.append("member ").append(c).append(" 9 0;");
        }
        for (int k = 0; k < 16; k++) {
            text.append("owns a ").append((char) ('b' + k % 7)).append(" 100 0;");
        }
        for (char c = 'a'; c <= 'h'; c++) {
            text.append("period ").append(c).append(" 0 9 ").append(c < 'e' ? "-" : "").append("99;");
        }
        text.append("period a 10 10 0;period b 10 10 5;period c 10 10 5;period d 10 10 5;");
        return text.toString();
    }

    private static void refused(String what, ToLongFunction<ReliefDesk> call, long answer) {
        BENCH.refused(what, EdgesTest::busy, call, answer);
    }

    private static void refused(String what, Consumer<ReliefDesk> made, ToLongFunction<ReliefDesk> call, long answer) {
        BENCH.refused(what, made, call, answer);
    }

    /** A question "as if it were otherwise": it is answered, and all stays. */
    private static void leavesAll(ToLongFunction<ReliefDesk> question) {
        BENCH.refused("a question", EdgesTest::busy, x -> Math.min(0, question.applyAsLong(x)), 0);
    }

    private static void limits(ReliefDesk x, String name, int[] args, int which, int low, int high, long refusal) {
        BENCH.limits(x, name, args, which, low, high, refusal);
    }

    // ---- 1 to 7: the TAPE, the TEXT, what it tells ----

    private static void newObject() {
        says(1, "No MEMBERS; an empty TAPE.");
        ReliefDesk x = new ReliefDesk();
        for (int what = 0; what <= 10; what++) {
            due("count(" + what + ")", x.count(what), what == 4 ? 75 : 0);
        }
        String[] none = {"named 33554432", "percent 0 1 0", "share 0 0 0", "parts 0 0 0", "controls 0 1 0", "related 0 0",
            "shared 0 1", "bound 0 1", "room 0 1", "price 0 1", "claim 0 1 1", "withdraw 0", "claimed 0 0", "own 0 1 1 0",
            "relief 0 1", "left 0", "pays 0 0", "tax 0", "without 0", "worth 0 1 1", "lack 0 1 1", "steps 0 0 0", "days 0 1 0",
            "ifFirst 0 0", "chance 0 1 0", "undo", "back", "fault 1"};
        for (String call : none) {
            due(call, Bench.call(x, call.split(" ")[0], numbersOf(call)), NONE);
        }
        String[] zero = {"fault 0", "groups 0", "groups 999", "solved 0", "solved 1", "solved 2", "solved 3", "reached",
            "settles", "claimAll", "byCarry 0", "byCarry 1", "byGate 1", "byGate 100", "carried 0", "carried 1", "carried 2",
            "carried 3", "result 0 0", "keep", "back", "text 0"};
        for (String call : zero) {
            due(call, Bench.call(x, call.split(" ")[0], numbersOf(call)), 0);
        }
        due("settling", x.settling(0, 0), -2);
        due("route", x.route(0), -2);
        due("dearest", x.dearest(), -2);
        due("gateFor(0)", x.gateFor(0), 100);
        due("gateFor(1)", x.gateFor(1), -2);
        due("balance", x.balance(0), -9999999);
        due("owes", x.owes(0, 1), -9999999);
        due("period", x.period(0, 0), -999999);
        due("member", Bench.call(x, "member", 0, 0), Bench.THROWS_INDEX);
        due("the first byte", x.feed(0, 0, 0, 0, 0), 20);
    }

    private static int[] numbersOf(String call) {
        String[] words = call.split(" ");
        int[] numbers = new int[words.length - 1];
        for (int k = 0; k < numbers.length; k++) {
            numbers[k] = Integer.parseInt(words[k + 1]);
        }
        return numbers;
    }

    private static void feeds() {
        says(2, "Twenty bytes come behind the TAPE, four of each number, the highest first: how many it has;");
        ReliefDesk x = new ReliefDesk();
        /* "gate", " 1", "2;se", "ed 5", ";   " */
        due("twenty", x.feed(0x67617465, 0x20202031, 0x323B7365, 0x65642035, 0x3B202020), 20);
        due("two LINES", x.text(17), 2);
        due("gate 12", x.count(4), 12);
        due("behind what is there", x.feed(0x67617465, 0x20202020, 0x20202020, 0x20202020, 0x20202020), 20);
        due("forty", x.feed(0x39383B20, 0, 0, 0, 0), 40);
        due("gate and, twenty bytes on, 98", x.text(23), 1);
        due("gate 98", x.count(4), 98);
        /* Every byte is itself, those above 127 too: none is a TOKEN. */
        for (int k = 0; k < 20; k++) {
            int[] n = {0x20202020, 0x20202020, 0x20202020, 0x20202020, 0x20202020};
            n[k / 4] ^= (0x20 ^ 0xE1) << (24 - k % 4 * 8);
            x.feed(n[0], n[1], n[2], n[3], n[4]);
            due("a byte of 225", x.text(20), NONE);
            due("its place", x.fault(1), k);
        }
        says(2, "NONE, and none come, if it would have more than 700.");
        ReliefDesk full = new ReliefDesk();
        for (int k = 1; k <= 35; k++) {
            due("feed", full.feed(0x20202020, 0x20202020, 0x20202020, 0x20202020, k == 35 ? 0x20202061 : 0x20202020), 20 * k);
        }
        due("a 36th", full.feed(0x67617465, 0x2031303B, 0x20202020, 0x20202020, 0x20202020), NONE);
        due("and again", full.feed(0, 0, 0, 0, 0), NONE);
        due("700 stay", full.count(9), 700);
        due("more than there are", full.text(701), -2);
        due("699 blanks and a sign", full.text(700), NONE);
        due("none came ahead of it", full.fault(0), 1);
        due("it is the last", full.fault(1), 699);
        due("room again", full.feed(0, 0, 0, 0, 0), 20);
        String text = SQUARE + " ".repeat(700 - SQUARE.length() - 8) + "gate 33;";
        due("a TEXT of 700 bytes", desk(text).count(4), 33);
        refused("a feed beyond 700", y -> {
            busy(y);
            while (y.count(9) < 700) {
                y.feed(MOST, LEAST, 0, -1, 1);
            }
        }, y -> y.feed(1, 2, 3, 4, 5), NONE);
    }

    private static void texts() {
        says(3, "The TAPE's first n bytes (it is empty then) are the TEXT");
        ReliefDesk x = new ReliefDesk();
        Bench.feedAll(x, "gate 7;price 2;");
        due("the first LINE alone", x.text(7), 1);
        due("gate", x.count(4), 7);
        due("no price", x.count(5), 0);
        due("what was behind it is gone", x.count(9), 0);
        Bench.feedAll(x, "gate 7;price 2;");
        due("all twenty", x.text(20), 2);
        Bench.feedAll(x, "gate 7;price 2;");
        due("none of it", x.text(0), 0);
        due("an empty TEXT", x.count(4), 75);
        due("an empty TAPE", x.count(9), 0);
        due("again", x.text(0), 0);

        due("700 blanks", Bench.tell(x, " ".repeat(700)), 0);
        /* Of three TEXTS the last alone counts, and nothing of a faulty one between them. */
        for (String between : new String[] {FULL, SQUARE, FULL + "gate 1;"}) {
            ReliefDesk y = desk(FULL);
            due("RELIEF of the first", y.solved(0), 396);
            Bench.tell(y, between);
            due("LINES of the last", Bench.tell(y, "member h 3 4;member g 0 0;owns h g 100 0;period h 0 9 -70000;period g 0 9 90000;"), 5);
            BENCH.dueEach(y, "count", args(), 2, 2, 1, 0, 75, 0, 1, 1, 0, 0, 0);
            due("RELIEF of the last", y.solved(0), 70000);
            due("its days", y.days(0, 1, 2), 1000);
            due("its seed", y.chance(-1, 60, 1), y.chance(0, 60, 1));
            due("the first again", Bench.tell(y, FULL), Bench.tell(new ReliefDesk(), FULL));
            due("RELIEF of the first", y.solved(0), 396);
        }

        says(3, "(no CLAIMS, nothing to undo, no IMAGE): how many LINES;");
        x = busy();
        x.text(0);
        due("no CLAIMS", x.count(3), 0);
        due("nothing to undo", x.undo(), NONE);
        due("no IMAGE", x.back(), NONE);
        due("no MEMBERS", x.count(0), 0);
        due("no PERIODS", x.count(1), 0);
        due("no owns", x.count(2), 0);
        due("LINES", Bench.tell(new ReliefDesk(), SQUARE.replace(";", " ;\n")), 11);
        x = new ReliefDesk();
        claimed(x);
        due("the same TEXT anew", Bench.tell(x, SQUARE), 11);
        due("no CLAIMS", x.count(3), 0);
        due("RESULTS anew", x.period(2, 3), 100);
        due("parts anew", x.percent(0, 1, 5), 80);
        due("nothing of the IMAGE", x.back(), NONE);

        says(3, "NONE with a FAULT, all else stays;");
        x = new ReliefDesk();
        claimed(x);
        ReliefDesk twin = new ReliefDesk();
        claimed(twin);
        String[] faulty = {"gate 0;", "member z 1 1;member y 1 1;owns z y 9 0;owns y z 9 0;", "owns a b 9 0;", ";",
            "gate 9;price 1;carry 1;seed 9;seed 9;", "member a 7 7;period a 0 9 -5;period a 9 9 1;", "gate 9"};
        for (String text : faulty) {
            due("text of " + text, Bench.tell(x, text), NONE);
            due("the TAPE is empty", x.count(9), 0);
        }
        /* So that both have the same FAULT: the latest. */
        Bench.tell(x, "gate ");
        Bench.tell(twin, "gate ");
        BENCH.same("seven FAULTS more", x, twin);
        x = busy();
        x.text(5);
        due("CLAIMS", x.count(3), 2);
        due("what can be undone", x.count(8), 6);
        due("the IMAGE", x.back(), 1);
        /* A FAULT behind good LINES: nothing of them comes. */
        x = busy();
        due("a FAULT in the last LINE", Bench.tell(x, "member z 1 1;period z 0 0 5;gate 3;price 1;carry 1;seed 2;gate 3;"), NONE);
        int[] counts = {4, 4, 4, 2, 75, 0, 2, 2, 6, 0, 0};
        for (int what = 0; what <= 10; what++) {
            due("count(" + what + ")", x.count(what), counts[what]);
        }

        says(3, "-2, and the TAPE stays: there are not so many, n is below 0.");
        refused("one more than there are", y -> y.text(21), -2);
        refused("most", y -> y.text(MOST), -2);
        refused("one below 0", y -> y.text(-1), -2);
        refused("least", y -> y.text(LEAST), -2);
        x = busy();
        x.text(21);
        due("the TAPE stays", x.count(9), 20);
        due("and can be the TEXT yet", x.text(20), 1);
        due("an empty TAPE has not one", x.text(1), -2);
    }

    private static void faults() {
        says(4, "Of the latest text() that was not -2, what 0: its FAULT (0), 1: its place (NONE without).");
        ReliefDesk x = new ReliefDesk();
        due("no text() yet", x.fault(0), 0);
        due("no text() yet", x.fault(1), NONE);
        x.text(1);
        due("-2 alone", x.fault(0), 0);
        due("-2 alone", x.fault(1), NONE);
        Bench.tell(x, "owns a b 0 0;");
        due("FAULT", x.fault(0), 4);
        due("place", x.fault(1), 5);
        x.text(1);
        x.text(-1);
        due("-2 leaves the FAULT", x.fault(0), 4);
        due("-2 leaves the place", x.fault(1), 5);
        Bench.tell(x, ";");
        due("a FAULT at the first byte", x.fault(0), 1);
        due("its place", x.fault(1), 0);
        x.text(0);
        due("without", x.fault(0), 0);
        due("without", x.fault(1), NONE);
        says(4, "NONE for another what.");
        x = busy();
        limits(x, "fault", args(0), 0, 0, 1, NONE);
    }

    private static int letters(String name) {
        int code = 0;
        for (int k = 0; k < 6; k++) {
            code = code << 5 | (k < name.length() ? name.charAt(k) - 96 : 0);
        }
        return code;
    }

    private static void names() {
        says(5, "A MEMBER by its letters, 5 bits each (a is 1; the first one highest of six, 0 behind the last one): its number;");
        ReliefDesk x = desk("member z 0 0;member a 0 0;member zzzzzz 0 0;member aaaaaa 0 0;member ab 0 0;member ba 0 0;"
            + "member abcdef 0 0;member abcde 0 0;");
        due("z", x.named(26 << 25), 0);
        due("a", x.named(1 << 25), 1);
        due("zzzzzz", x.named(letters("zzzzzz")), 2);
        due("aaaaaa", x.named(letters("aaaaaa")), 3);
        due("ab", x.named(1 << 25 | 2 << 20), 4);
        due("ba", x.named(2 << 25 | 1 << 20), 5);
        due("abcdef", x.named(1 << 25 | 2 << 20 | 3 << 15 | 4 << 10 | 5 << 5 | 6), 6);
        due("abcde", x.named(1 << 25 | 2 << 20 | 3 << 15 | 4 << 10 | 5 << 5), 7);
        says(5, "NONE: there is none such.");
        int[] none = {0, 1, -1, LEAST, MOST, 27 << 25, 31 << 25, 26, 1 << 20, 1 << 30 | 1 << 25, 1 << 31 | 1 << 25,
            letters("abc"), letters("aab"), letters("aaaaa"), letters("zzzzzy"), 1 << 25 | 2 << 15};
        for (int code : none) {
            due("named(" + code + ")", x.named(code), NONE);
        }
        x.text(0);
        due("gone with a new TEXT", x.named(1 << 25), NONE);
        Bench.tell(x, "member a 0 0;gate 0;");
        due("not there with a FAULT", x.named(1 << 25), NONE);
    }

    private static void members() {
        says(6, "Of a MEMBER, what 0 ASKS, 1 RATE, 2 its PERIODS as bits.");
        StringBuilder text = new StringBuilder("member a 0 99;member b 99 0;member c 1 2;");
        for (int p = 0; p < 12; p++) {
            text.append("period ").append(p == 0 || p == 11 ? "b" : "a").append(" ").append(p).append(" ").append(p).append(" 0;");
        }
        ReliefDesk x = desk(text.toString());
        BENCH.dueEach(x, "member", args(0), 0, 99, 0x7FE);
        BENCH.dueEach(x, "member", args(1), 99, 0, 0x801);
        BENCH.dueEach(x, "member", args(2), 1, 2, 0);
        says(6, "IndexOutOfBoundsException: no such MEMBER.");
        limits(x, "member", args(0, 0), 0, 0, 2, Bench.THROWS_INDEX);
        due("no such what either", Bench.call(x, "member", 3, 3), Bench.THROWS_INDEX);
        due("no MEMBERS at all", Bench.call(new ReliefDesk(), "member", 0, 0), Bench.THROWS_INDEX);
        StringBuilder eight = new StringBuilder();
        for (char c = 'a'; c <= 'h'; c++) {
            eight.append("member ").append(c).append(" ").append(c - 'a').append(" 0;");
        }
        limits(desk(eight.toString()), "member", args(0, 0), 0, 0, 7, Bench.THROWS_INDEX);
        says(6, "NoSuchElementException: no such what.");
        limits(x, "member", args(2, 0), 1, 0, 2, Bench.THROWS_NO_ELEMENT);
        refused("no such MEMBER", y -> Bench.call(y, "member", 4, 0), Bench.THROWS_INDEX);
        refused("no such what", y -> Bench.call(y, "member", 3, 3), Bench.THROWS_NO_ELEMENT);
    }

    private static void periods() {
        says(7, "Of a PERIOD, what 0 its MEMBER, 1 first DAY, 2 last DAY, 3 RESULT, 4 OPEN (0 with RESULT 0), "
            + "5 what CLAIMS take of it;");
        ReliefDesk x = desk(FOUR + "period d 0 999 -99999;period c 0 999 99999;period b 998 998 0;");
        BENCH.dueEach(x, "period", args(0), 3, 0, 999, -99999, 99999, 0);
        BENCH.dueEach(x, "period", args(1), 2, 0, 999, 99999, 99999, 0);
        BENCH.dueEach(x, "period", args(2), 1, 998, 998, 0, 0, 0);
        due("all of it", x.claim(0, 1, 99999), 0);
        BENCH.dueEach(x, "period", args(0), 3, 0, 999, -99999, 0, 99999);
        BENCH.dueEach(x, "period", args(1), 2, 0, 999, 99999, 0, 99999);
        says(7, "-999999: no such ones.");
        limits(x, "period", args(0, 0), 0, 0, 2, -999999);
        limits(x, "period", args(0, 0), 1, 0, 5, -999999);
        due("neither", x.period(3, 6), -999999);
    }

    // ---- 8 to 14: parts ----

    private static void percents() {
        says(8, "PERCENT of a MEMBER in another one on a DAY 0 .. 999;");
        ReliefDesk x = desk(FOUR + "owns b c 1 0;owns b c 99 999;");
        due("DAY 0", x.percent(1, 2, 0), 1);
        due("DAY 998", x.percent(1, 2, 998), 1);
        due("DAY 999", x.percent(1, 2, 999), 99);
        due("all of it", x.percent(0, 2, 0), 100);
        due("none told", x.percent(2, 3, 0), 0);
        limits(x, "percent", args(0, 1, 0), 2, 0, 999, NONE);
        says(8, "NONE: no such ones (unlike, in whatever order: 0, if the first one is greater).");
        due("the first one is greater", x.percent(2, 1, 999), 0);
        due("the first one is greater", x.percent(3, 0, 0), 0);
        for (int m = 0; m < 4; m++) {
            due("like ones", x.percent(m, m, 0), NONE);
        }
        limits(x, "percent", args(0, 3, 0), 0, 0, 2, NONE);
        limits(x, "percent", args(3, 0, 0), 0, 1, 3, NONE);
        limits(x, "percent", args(0, 3, 0), 1, 1, 3, NONE);
        limits(x, "percent", args(3, 0, 0), 1, 0, 2, NONE);
    }

    private static void shares() {
        says(9, "SHARE on a DAY 0 .. 999, its bits (floatToIntBits);");
        ReliefDesk x = desk(FOUR + "owns a b 0 500;owns a b 100 999;owns c d 50 0;");
        due("1", x.share(0, 0, 0), 0x3F800000);
        due("0.8", x.share(0, 1, 0), 0x3F4CCCCD);
        due("DAY 499", x.share(0, 1, 499), 0x3F4CCCCD);
        due("0", x.share(0, 1, 500), 0);
        due("DAY 998", x.share(0, 1, 998), 0);
        due("all of it", x.share(0, 1, 999), 0x3F800000);
        due("1.5", x.share(0, 3, 0), 0x3FC00000);
        due("0.5", x.share(2, 3, 0), 0x3F000000);
        due("the first one is greater", x.share(3, 2, 0), 0);
        for (int percent = 1; percent <= 100; percent++) {
            ReliefDesk y = desk(TWO + "owns a b " + percent + " 0;");
            due(percent + " percent", y.share(0, 1, 0), Float.floatToIntBits(percent / 100f));
        }
        says(9, "NONE: no such ones.");
        limits(x, "share", args(1, 1, 5), 0, 0, 3, NONE);
        limits(x, "share", args(1, 1, 5), 1, 0, 3, NONE);
        limits(x, "share", args(1, 1, 5), 2, 0, 999, NONE);
        says(10, "SHARE on a DAY in ten-thousandths, nearest (SHARE as a double, times 10000, and a half, downwards);");
        ReliefDesk halves = desk("member a 0 0;member b 0 0;member c 0 0;member d 0 0;member e 0 0;member f 0 0;"
            + "owns a b 50 0;owns b c 50 0;owns c d 50 0;owns d e 50 0;owns e f 50 0;");
        due("5000", halves.parts(0, 1, 0), 5000);
        due("312 and a half goes up", halves.parts(0, 5, 0), 313);
        due("of itself", halves.parts(5, 5, 0), 10000);
        due("0", halves.parts(5, 0, 0), 0);
        ReliefDesk chain = desk("member a 0 0;member b 0 0;member c 0 0;member d 0 0;owns a b 31 0;owns b c 75 0;owns c d 94 0;");
        due("as a double below 2185 and a half, as a float not", chain.parts(0, 3, 0), 2185);
        chain = desk("member a 0 0;member b 0 0;member c 0 0;member d 0 0;owns a b 22 0;owns b c 5 0;owns c d 25 0;");
        due("as a double below 27 and a half", chain.parts(0, 3, 0), 27);
        due("1.5 of it", x.parts(0, 3, 0), 15000);
        says(10, "NONE: no such ones.");
        limits(x, "parts", args(1, 1, 5), 0, 0, 3, NONE);
        limits(x, "parts", args(1, 1, 5), 1, 0, 3, NONE);
        limits(x, "parts", args(1, 1, 5), 2, 0, 999, NONE);
    }

    private static void controls() {
        says(11, "Whether a CONTROLS b on a DAY 0 .. 999 (1, 0);");
        ReliefDesk x = desk("gate 100;" + TWO + "owns a b 99 0;owns a b 100 999;");
        due("DAY 0", x.controls(0, 1, 0), 0);
        due("DAY 998", x.controls(0, 1, 998), 0);
        due("DAY 999", x.controls(0, 1, 999), 1);
        due("b does not", x.controls(1, 0, 999), 0);
        says(11, "NONE: no such ones, not unlike.");
        x = desk(FOUR);
        limits(x, "controls", args(0, 1, 5), 2, 0, 999, NONE);
        limits(x, "controls", args(3, 0, 5), 0, 1, 3, NONE);
        limits(x, "controls", args(0, 3, 5), 0, 0, 2, NONE);
        limits(x, "controls", args(0, 3, 5), 1, 1, 3, NONE);
        limits(x, "controls", args(3, 0, 5), 1, 0, 2, NONE);
        for (int m = 0; m < 4; m++) {
            due("not unlike", x.controls(m, m, 0), NONE);
        }
        says(12, "MEMBERS to which one is RELATED on a DAY 0 .. 999, as bits;");
        StringBuilder eight = new StringBuilder();
        for (char c = 'a'; c <= 'h'; c++) {
            eight.append("member ").append(c).append(" 0 0;");
        }
        for (char c = 'b'; c <= 'h'; c++) {
            eight.append("owns a ").append(c).append(" 75 999;");
        }
        x = desk(eight.toString());
        for (int m = 0; m < 8; m++) {
            due("DAY 998", x.related(m, 998), 0);
            due("DAY 999: all but itself", x.related(m, 999), 255 & ~(1 << m));
        }
        says(12, "NONE: no such ones.");
        limits(x, "related", args(0, 0), 0, 0, 7, NONE);
        limits(x, "related", args(0, 0), 1, 0, 999, NONE);
        due("neither", x.related(8, 1000), NONE);
    }

    private static void groups() {
        says(13, "How many groups MEMBERS are in on a DAY 0 .. 999, each hanging together by who is RELATED (0 without MEMBERS);");
        StringBuilder eight = new StringBuilder();
        for (char c = 'a'; c <= 'h'; c++) {
            eight.append("member ").append(c).append(" 0 0;");
        }
        due("without MEMBERS", new ReliefDesk().groups(0), 0);
        due("one alone", desk("member a 0 0;").groups(0), 1);
        ReliefDesk x = desk(eight.toString());
        due("each alone", x.groups(999), 8);
        /* Each CONTROLS the next one alone, as 75 percent of 75 are too few: they hang together two by two. */
        for (int a = 0; a < 7; a++) {
            x.own(a, a + 1, 75, 10 * (a + 1));
        }
        due("each alone yet", x.groups(9), 8);
        for (int k = 1; k <= 7; k++) {
            due("one group less", x.groups(10 * k), 8 - k);
        }
        due("all by one chain", x.groups(999), 1);
        due("but a CONTROLS b alone", x.related(0, 999), 2);
        ReliefDesk pairs = desk(eight + "owns a h 75 0;owns b g 75 0;owns c f 75 0;owns d e 75 0;");
        due("four groups", pairs.groups(0), 4);
        due("by a third one both", desk(eight + "owns a g 75 0;owns a h 75 0;").groups(0), 6);
        says(13, "NONE: no such DAY.");
        limits(x, "groups", args(0), 0, 0, 999, NONE);
        due("without MEMBERS neither", new ReliefDesk().groups(1000), NONE);
    }

    private static void sharedDays() {
        says(14, "SHARED of two PERIODS;");
        ReliefDesk x = desk(TWO + "owns a b 100 0;period a 10 19 0;period b 19 28 7;period a 20 29 -7;period b 0 10 7;period b 11 18 1;");
        due("one DAY, the last", x.shared(0, 1), 1);
        due("the other way", x.shared(1, 0), 1);
        due("nine DAYS", x.shared(2, 1), 9);
        due("one DAY, the first", x.shared(0, 3), 1);
        due("within", x.shared(4, 0), 8);
        due("no DAY", x.shared(2, 3), 0);
        says(14, "NONE: no such ones, of one MEMBER.");
        due("of one MEMBER", x.shared(0, 2), NONE);
        due("of one MEMBER", x.shared(3, 1), NONE);
        due("itself", x.shared(1, 1), NONE);
        x = desk(SQUARE);
        limits(x, "shared", args(0, 3), 0, 0, 2, NONE);
        limits(x, "shared", args(3, 0), 0, 1, 3, NONE);
        limits(x, "shared", args(3, 0), 1, 0, 2, NONE);
        limits(x, "shared", args(0, 3), 1, 1, 3, NONE);
    }

    // ---- 15 to 23: LINKS, CLAIMS ----

    private static void links() {
        ReliefDesk x = desk(SQUARE);
        String[] names = {"bound", "room", "price", "relief"};
        int[] promises = {15, 16, 17, 24};
        for (int k = 0; k < names.length; k++) {
            says(promises[k], new String[] {"BOUND", "ROOM", "PRICE", "RELIEF"}[k] + " of a LINK;");
            due("a LINK", Bench.call(x, names[k], 0, 2), new int[] {100, 100, 10, 100}[k]);
            due("another LINK", Bench.call(x, names[k], 1, 2), new int[] {100, 100, 20, 0}[k]);
            says(promises[k], "NONE: it is none.");
            limits(x, names[k], args(0, 3), 0, 0, 1, NONE);
            limits(x, names[k], args(0, 3), 1, 2, 3, NONE);
            due("from a PROFIT", Bench.call(x, names[k], 2, 0), NONE);
            due("LOSS to LOSS", Bench.call(x, names[k], 0, 1), NONE);
            due("PROFIT to PROFIT", Bench.call(x, names[k], 2, 3), NONE);
            due("itself", Bench.call(x, names[k], 0, 0), NONE);
            ReliefDesk one = desk("member a 0 0;period a 0 0 -5;period a 1 1 5;");
            due("of one MEMBER without carry", Bench.call(one, names[k], 0, 1), NONE);
            ReliefDesk zero = desk(TWO + "owns a b 100 0;period a 0 0 0;period b 0 0 5;period a 1 1 -5;period b 1 1 0;");
            due("RESULT 0 is no LOSS", Bench.call(zero, names[k], 0, 1), NONE);
            due("RESULT 0 is no PROFIT", Bench.call(zero, names[k], 2, 3), NONE);
        }
        says(15, "BOUND of a LINK;");
        ReliefDesk apart = desk(TWO + "period a 0 9 -5;period b 0 9 5;");
        due("a LINK without SHARED", apart.bound(0, 1), 0);
        due("it has ROOM 0", apart.room(0, 1), 0);
        due("it has a PRICE", apart.price(0, 1), 0);
        due("it has RELIEF 0", apart.relief(0, 1), 0);
        says(16, "ROOM of a LINK;");
        x.claim(0, 2, 99);
        due("1 left", x.room(0, 2), 1);
        x.claim(0, 2, 1);
        due("none left", x.room(0, 2), 0);
        due("BOUND stays", x.bound(0, 2), 100);
        due("of others all", x.room(0, 3), 100);
        x.withdraw(0);
        due("again", x.room(0, 2), 99);
    }

    private static void claims() {
        says(18, "A CLAIM of n 1 .. 99999 from a LOSS to a PROFIT: its number;");
        ReliefDesk x = desk(WIDE);
        due("most", x.claim(0, 2, 99999), 0);
        due("least", x.claim(1, 3, 1), 1);
        says(18, "NONE: it is no LINK, no such n;");
        ReliefDesk y = desk(WIDE);
        limits(y, "claim", args(1, 3, 1), 2, 1, 99999, NONE);
        y = desk(WIDE);
        limits(y, "claim", args(0, 3, 1), 0, 0, 1, NONE);
        limits(y, "claim", args(0, 3, 1), 1, 2, 3, NONE);
        refused("from a PROFIT", z -> z.claim(2, 0, 1), NONE);
        refused("LOSS to LOSS", z -> z.claim(0, 1, 1), NONE);
        refused("no PERIOD", z -> z.claim(0, 4, 1), NONE);
        refused("no PERIOD", z -> z.claim(-1, 2, 1), NONE);
        refused("n 0", z -> z.claim(0, 2, 0), NONE);
        refused("n 100000", z -> z.claim(0, 2, 100000), NONE);
        refused("n least", z -> z.claim(0, 2, LEAST), NONE);
        refused("n most", z -> z.claim(0, 2, MOST), NONE);
        says(18, "-2: there are 30;");
        refused("a 31st", EdgesTest::thirty, z -> z.claim(0, 2, 1), -2);
        refused("a 31st that is too much", EdgesTest::thirty, z -> z.claim(0, 2, 99999), -2);
        refused("a 31st that is no LINK", EdgesTest::thirty, z -> z.claim(2, 0, 1), NONE);
        ReliefDesk full = new ReliefDesk();
        thirty(full);
        full.withdraw(29);
        due("with 29 there is room", full.claim(0, 2, 1), 29);
    }

    private static void thirty(ReliefDesk x) {
        Bench.tell(x, SQUARE);
        x.keep();
        for (int k = 0; k < 30; k++) {
            x.claim(k % 2, 2 + k % 2, 1 + k % 5);
        }
    }

    private static void claimLimits() {
        says(18, "-3: more than ROOM, than OPEN of one of both.");
        /* ROOM of 50, as half the DAYS are shared; OPEN 100 each. */
        String half = FOUR + "period a 0 9 -100;period c 5 14 100;period b 0 9 -100;";
        ReliefDesk x = desk(half);
        due("more than ROOM", x.claim(0, 1, 51), -3);
        due("all ROOM", x.claim(0, 1, 50), 0);
        due("ROOM is used up", x.claim(0, 1, 1), -3);
        refused("more than ROOM", y -> Bench.tell(y, half), y -> y.claim(0, 1, 51), -3);
        x = desk(SQUARE);
        x.claim(0, 2, 60);
        due("more than OPEN of the LOSS", x.claim(0, 3, 41), -3);
        due("all OPEN of the LOSS", x.claim(0, 3, 40), 1);
        due("more than OPEN of the PROFIT", x.claim(1, 2, 41), -3);
        due("all OPEN of the PROFIT", x.claim(1, 2, 40), 2);
        due("with OPEN used up", x.claim(0, 2, 1), -3);
        due("most", x.claim(1, 3, 99999), -3);
        refused("more than OPEN of the LOSS", y -> y.claim(1, 3, 51), -3);
        refused("more than OPEN of the PROFIT", y -> y.claim(0, 2, 61), -3);
    }

    private static void withdrawals() {
        says(19, "A CLAIM is withdrawn (those behind it have one number less): how much it was;");
        ReliefDesk x = desk(SQUARE);
        for (int k = 0; k < 5; k++) {
            x.claim(k % 2, 2 + k % 2, 1 + k);
        }
        due("the last", x.withdraw(4), 5);
        due("the first", x.withdraw(0), 1);
        BENCH.dueEach(x, "claimed", args(0), 1, 3, 2);
        BENCH.dueEach(x, "claimed", args(1), 0, 2, 3);
        BENCH.dueEach(x, "claimed", args(2), 1, 3, 4);
        due("no fourth", x.claimed(3, 0), NONE);
        due("the middle", x.withdraw(1), 3);
        BENCH.dueEach(x, "claimed", args(1), 1, 3, 4);
        due("OPEN again", x.period(0, 4), 100);
        due("what is left", x.count(3), 2);
        ReliefDesk full = new ReliefDesk();
        thirty(full);
        due("the first of 30", full.withdraw(0), 1);
        due("29", full.count(3), 29);
        due("the last of 29", full.claimed(28, 2), 5);
        says(19, "NONE: no such one.");
        for (int none : new int[] {2, 3, 30, -1, LEAST, MOST}) {
            refused("withdraw(" + none + ")", y -> y.withdraw(none), NONE);
        }
        refused("there are none", y -> Bench.tell(y, SQUARE), y -> y.withdraw(0), NONE);

        says(20, "Of a CLAIM, what 0 its LOSS, 1 its PROFIT, 2 how much, 3 PAID for it;");
        x = desk(SQUARE);
        x.claim(1, 3, 9);
        x.claim(0, 2, 10);
        BENCH.dueEach(x, "claimed", args(0), 1, 3, 9, 1);
        BENCH.dueEach(x, "claimed", args(1), 0, 2, 10, 1);
        says(20, "NONE: no such ones.");
        limits(x, "claimed", args(0, 0), 0, 0, 1, NONE);
        limits(x, "claimed", args(0, 0), 1, 0, 3, NONE);
        due("neither", x.claimed(2, 4), NONE);
    }

    private static void claimAlls() {
        says(21, "What RELIEF lies on LINKS becomes CLAIMS, by LOSSES, then PROFITS,");
        /* b, the cheaper one, takes c; a takes d. */
        ReliefDesk x = desk(SQUARE.replace("a 10 0", "a 30 0"));
        due("two", x.claimAll(), 2);
        BENCH.dueEach(x, "claimed", args(0), 0, 3, 100, 30);
        BENCH.dueEach(x, "claimed", args(1), 1, 2, 100, 20);
        due("no RELIEF is left", x.solved(0), 0);
        x = desk(SQUARE.replace("a 0 9 -100", "a 0 9 -150"));
        due("three", x.claimAll(), 3);
        BENCH.dueEach(x, "claimed", args(0), 0, 2, 100);
        BENCH.dueEach(x, "claimed", args(1), 0, 3, 50);
        BENCH.dueEach(x, "claimed", args(2), 1, 3, 50);
        says(21, "as long as there are not 30:");
        ReliefDesk full = new ReliefDesk();
        thirty(full);
        due("30 there", full.claimAll(), 0);
        due("30 stay", full.count(3), 30);
        full.withdraw(29);
        due("29 there: one comes", full.claimAll(), 1);
        BENCH.dueEach(full, "claimed", args(29), 0, 2, 55);
        due("the other one's RELIEF is left", full.solved(0), 60);
        due("30 again", full.claimAll(), 0);
        says(21, "how many came (one that can be undone, if any did).");
        x = desk(SQUARE);
        due("two came", x.claimAll(), 2);
        due("one that can be undone", x.count(8), 1);
        due("none came", x.claimAll(), 0);
        due("none to undo for it", x.count(8), 1);
        due("both undone at once", x.undo(), 0);
        due("none there", x.count(3), 0);
        refused("none can come", y -> Bench.tell(y, FOUR), ReliefDesk::claimAll, 0);
        refused("30 there", EdgesTest::thirty, ReliefDesk::claimAll, 0);
    }

    private static void results() {
        says(22, "RESULT of a PERIOD becomes v -99999 .. 99999: true;");
        ReliefDesk x = desk(SQUARE);
        for (int v : new int[] {-99999, 99999, 0, -1, 1}) {
            BENCH.due("result(0, " + v + ")", x.result(0, v), true);
            due("RESULT", x.period(0, 3), v);
            due("OPEN", x.period(0, 4), Math.abs(v));
        }
        BENCH.due("the value it has", x.result(0, 1), true);
        due("each can be undone", x.count(8), 6);
        says(22, "false: no such ones, there is a CLAIM of it.");
        limits(x, "result", args(0, 5), 0, 0, 3, 0);
        limits(x, "result", args(0, 5), 1, -99999, 99999, 0);
        refused("v 100000", y -> Bench.call(y, "result", 0, 100000), 0);
        refused("v -100000", y -> Bench.call(y, "result", 0, -100000), 0);
        refused("no PERIOD", y -> Bench.call(y, "result", 4, 5), 0);
        refused("no PERIOD", y -> Bench.call(y, "result", -1, 5), 0);
        refused("a CLAIM of the LOSS", y -> Bench.call(y, "result", 1, -50), 0);
        refused("a CLAIM of the PROFIT", y -> Bench.call(y, "result", 2, 50), 0);
        refused("a CLAIM of it, as it is", y -> Bench.call(y, "result", 1, -100), 0);
        for (int p = 0; p <= 2; p += 2) {
            int period = p;
            refused("a CLAIM of 1", y -> {
                Bench.tell(y, SQUARE);
                y.claim(0, 2, 1);
            }, y -> Bench.call(y, "result", period, 50), 0);
        }
        x = desk(SQUARE);
        x.claim(0, 2, 1);
        BENCH.due("no CLAIM of it", x.result(1, 5), true);
        BENCH.due("no CLAIM of it", x.result(3, 5), true);
        x.withdraw(0);
        BENCH.due("none any more", x.result(0, 5), true);
        BENCH.due("none any more", x.result(2, 5), true);
    }

    private static void owns() {
        says(23, "From a DAY 0 .. 999 on a MEMBER owns PERCENT 0 .. 100 of another one whose number is greater "
            + "(told behind all others): how many owns there are then (told ones, too);");
        ReliefDesk x = desk(FOUR + "owns a b 70 5;");
        due("told ones, too", x.own(0, 1, 100, 5), 5);
        due("told behind all others", x.percent(0, 1, 5), 100);
        due("the DAY ahead", x.percent(0, 1, 4), 80);
        due("DAY 999", x.own(2, 3, 100, 999), 6);
        due("PERCENT 0", x.own(0, 1, 0, 0), 7);
        due("from DAY 0 on", x.percent(0, 1, 0), 0);
        due("till the next DAY", x.percent(0, 1, 5), 100);
        due("on the last DAY", x.percent(2, 3, 999), 100);
        due("not ahead of it", x.percent(2, 3, 998), 0);
        says(23, "NONE: no such ones;");
        limits(x, "own", args(0, 3, 5, 5), 0, 0, 2, NONE);
        limits(x, "own", args(0, 3, 5, 5), 1, 1, 3, NONE);
        limits(x, "own", args(0, 3, 5, 5), 2, 0, 100, NONE);
        limits(x, "own", args(0, 3, 5, 5), 3, 0, 999, NONE);
        int[][] none = {{1, 0, 5, 5}, {1, 1, 5, 5}, {0, 4, 5, 5}, {-1, 0, 5, 5}, {0, 1, 101, 5}, {0, 1, -1, 5}, {0, 1, 5, 1000},
            {0, 1, 5, -1}, {3, 2, 5, 5}, {0, 1, LEAST, 5}, {0, 1, 5, MOST}};
        for (int[] o : none) {
            refused("own" + java.util.Arrays.toString(o), y -> y.own(o[0], o[1], o[2], o[3]), NONE);
        }
        says(23, "-2: there are 24;");
        refused("a 25th", EdgesTest::twentyFour, y -> y.own(0, 1, 5, 5), -2);
        refused("a 25th by which CLAIMS would be more", EdgesTest::twentyFour, y -> y.own(0, 2, 0, 0), -2);
        refused("a 25th that cannot be", EdgesTest::twentyFour, y -> y.own(0, 1, 101, 5), NONE);
        ReliefDesk full = new ReliefDesk();
        twentyFour(full);
        due("24", full.count(2), 24);
        full.undo();
        due("with 23 there is room", full.own(0, 1, 5, 5), 24);
    }

    /** 16 told owns and eight more, with a CLAIM. */
    private static void twentyFour(ReliefDesk x) {
        Bench.tell(x, FOUR + "owns a c 100 0;".repeat(13) + "period a 0 9 -100;period b 0 9 -100;period c 0 9 100;period d 0 9 100;");
        x.claim(0, 2, 50);
        x.keep();
        for (int k = 0; k < 8; k++) {
            x.own(0, 1, 90 + k, k);
        }
    }

    private static void ownsBeyondBounds() {
        says(23, "-3: CLAIMS of a LINK would be more than its BOUND.");
        Consumer<ReliefDesk> claimed = y -> {
            Bench.tell(y, SQUARE);
            y.claim(0, 2, 30);
            y.claim(0, 2, 20);
            y.keep();
        };
        ReliefDesk x = new ReliefDesk();
        claimed.accept(x);
        due("BOUND 40 would be less than 50", x.own(0, 2, 0, 4), -3);
        due("BOUND 50 is not", x.own(0, 2, 0, 5), 4);
        due("BOUND", x.bound(0, 2), 50);
        due("ROOM", x.room(0, 2), 0);
        due("told behind: 40 again", x.own(0, 2, 74, 4), -3);
        due("what is told later counts not", x.own(0, 2, 75, 4), 5);
        refused("BOUND 40", claimed, y -> y.own(0, 2, 0, 4), -3);
        refused("BOUND 0", claimed, y -> y.own(0, 2, 0, 0), -3);
        /* By a chain: b CONTROLS c no more by what a has. */
        x = desk("member a 0 0;member b 0 0;member c 0 0;owns a b 100 0;owns b c 100 0;period a 0 9 -9;period c 0 9 9;");
        x.claim(0, 1, 9);
        due("a part in the middle of the chain", x.own(0, 1, 50, 9), -3);
        due("another part", x.own(0, 2, 50, 9), 3);
        due("now it may be less", x.own(0, 1, 50, 9), 4);
        x = desk("carry 1;" + TWO + "owns a b 100 0;period a 0 9 -9;period a 10 19 9;period b 0 9 9;");
        x.claim(0, 1, 9);
        due("a CARRY's BOUND stays", x.own(0, 1, 0, 0), 2);
    }

    // ---- 24 to 33: RELIEF, what is paid ----

    private static void reliefs() {
        says(25, "What 0 all RELIEF, 1 its PRICES (each LINK's times its RELIEF) together, 2 how many ROUTES there were, "
            + "3 LINKS with RELIEF;");
        BENCH.dueEach(desk(FOUR), "solved", args(), 0, 0, 0, 0);
        BENCH.dueEach(desk(SQUARE), "solved", args(), 200, 3000, 2, 2);
        /* One ROUTE goes back, so that there are more ROUTES than LINKS. */
        ReliefDesk x = desk("member a 5 0;member b 1 0;member c 0 0;member d 0 0;owns a c 100 0;owns b c 100 0;owns b d 100 0;"
            + "period a 0 9 -30;period b 0 9 -30;period c 0 9 50;period d 0 9 80;");
        BENCH.dueEach(x, "solved", args(), 60, 30 * 5 + 30, 3, 3);
        x = desk("price 1;member a 99 0;member b 0 0;owns a b 100 0;period a 0 9 -99999;period b 0 9 99999;");
        BENCH.dueEach(x, "solved", args(), 99999, 99999L * 198, 1, 1);
        StringBuilder most = new StringBuilder("price 1;member a 99 0;member b 99 0;owns a b 100 0;");
        for (int k = 0; k < 6; k++) {
            most.append("period a ").append(k).append(" ").append(k).append(" -99999;");
            most.append("period b ").append(k).append(" ").append(k).append(" 99999;");
        }
        BENCH.dueEach(desk(most.toString()), "solved", args(), 6 * 99999, 6L * 99999 * 198, 6, 6);
        ReliefDesk one = desk("member a 99 0;member b 0 0;owns a b 100 0;period a 0 9 -1;period b 0 9 1;");
        BENCH.dueEach(one, "solved", args(), 1, 99, 1, 1);
        due("RELIEF of 1", one.dearest(), 1);
        due("becomes a CLAIM", one.claimAll(), 1);
        /* 1 of b goes first, to c, then back by it, as a has c alone. */
        one = desk("member a 5 0;member b 1 0;member c 0 0;member d 0 0;owns a c 100 0;owns b c 100 0;owns b d 100 0;"
            + "period a 0 9 -1;period b 0 9 -1;period c 0 9 1;period d 0 9 1;");
        BENCH.dueEach(one, "solved", args(), 2, 6, 2, 2);
        says(25, "NONE for another what.");
        limits(desk(SQUARE), "solved", args(0), 0, 0, 3, NONE);
    }

    private static void leftAndReached() {
        says(26, "REACHED PERIODS, as bits.");
        due("none", desk(SQUARE).reached(), 0);
        ReliefDesk x = desk(SQUARE.replace("d 0 9 100", "d 0 9 99"));
        due("1 has 1 left: all", x.reached(), 15);
        StringBuilder text = new StringBuilder("member a 0 0;");
        for (int p = 0; p < 12; p++) {
            text.append("period a ").append(p).append(" ").append(p).append(p % 11 == 0 ? " -1;" : " 1;");
        }
        due("the first and the last of twelve", desk(text.toString()).reached(), 1 | 1 << 11);

        due("by ROOM of 1, back by RELIEF of 1", desk("member a 5 0;member b 1 0;member c 0 0;owns a c 100 0;owns b c 100 0;"
            + "period a 0 9 -3;period b 0 9 -1;period c 0 9 3;").reached(), 7);

        says(27, "What of a PERIOD's OPEN RELIEF doesn't use up;");
        due("1", x.left(1), 1);
        due("0", x.left(0), 0);
        x.result(0, 0);
        due("RESULT 0", x.left(0), 0);
        due("a PROFIT: 100 of b go, 99 stay", x.left(2) + x.left(3), 99);
        x = desk(WIDE + "period a 10 10 -99999;");
        due("all of it", x.left(4), 99999);
        x.claim(0, 2, 40);
        due("OPEN is used up", x.left(0), 0);
        says(27, "NONE: no such one.");
        limits(x, "left", args(0), 0, 0, 4, NONE);
    }

    private static void pays() {
        says(28, "PAID by a MEMBER for RELIEF it takes (what 0), to it for RELIEF it gives (1), by CLAIMS likewise (2, 3);");
        ReliefDesk x = desk(SQUARE);
        x.claim(0, 2, 19);
        x.claim(0, 2, 19);
        x.claim(1, 3, 4);
        /* Left: a 62 to c; b 96 to d. */
        BENCH.dueEach(x, "pays", args(0), 0, 6, 0, 2);
        BENCH.dueEach(x, "pays", args(1), 0, 19, 0, 0);
        BENCH.dueEach(x, "pays", args(2), 6, 0, 2, 0);
        BENCH.dueEach(x, "pays", args(3), 19, 0, 0, 0);
        says(28, "NONE: no such ones.");
        limits(x, "pays", args(0, 0), 0, 0, 3, NONE);
        limits(x, "pays", args(0, 0), 1, 0, 3, NONE);
        due("neither", x.pays(4, 4), NONE);
        says(29, "BALANCE of a MEMBER;");
        int[] balances = {8, 19, -8, -19};
        for (int m = 0; m < 4; m++) {
            due("balance(" + m + ")", x.balance(m), balances[m]);
        }
        says(29, "-9999999: no such one.");
        limits(x, "balance", args(0), 0, 0, 3, -9999999);
    }

    private static void owes() {
        says(30, "What a MEMBER pays another one less what that one pays it, for RELIEF and CLAIMS;");
        ReliefDesk x = desk("member a 10 0;member b 30 0;member c 0 0;owns a b 100 0;"
            + "period a 0 9 -100;period b 0 9 100;period b 10 19 -100;period a 10 19 100;");
        x.claim(0, 1, 45);
        x.claim(2, 3, 25);
        due("a: 7 and 22 less 4 and 5", x.owes(0, 1), 20);
        due("b", x.owes(1, 0), -20);
        due("nothing", x.owes(0, 2), 0);
        due("nothing", x.owes(2, 1), 0);
        says(30, "-9999999: no such ones, not unlike.");
        for (int m = 0; m < 3; m++) {
            due("not unlike", x.owes(m, m), -9999999);
        }
        limits(x, "owes", args(0, 2), 0, 0, 1, -9999999);
        limits(x, "owes", args(2, 0), 0, 1, 2, -9999999);
        limits(x, "owes", args(2, 0), 1, 0, 1, -9999999);
        limits(x, "owes", args(0, 2), 1, 1, 2, -9999999);
    }

    private static void settlings() {
        says(31, "How many payments SETTLING has.");
        due("none", desk(FOUR).settles(), 0);
        due("two", desk(SQUARE).settles(), 2);
        /* Eight MEMBERS: one LOSS, seven PROFITS. */
        StringBuilder text = new StringBuilder("member a 50 0;");
        for (char c = 'b'; c <= 'h'; c++) {
            text.append("member ").append(c).append(" 0 0;owns a ").append(c).append(" 100 0;");
        }
        text.append("period a 0 9 -99999;");
        for (char c = 'b'; c <= 'h'; c++) {
            text.append("period ").append(c).append(" 0 9 ").append(c - 'a').append("00;");
        }
        ReliefDesk x = desk(text.toString());
        due("seven, the most", x.settles(), 7);
        due("one MEMBER", desk("member a 5 0;period a 0 9 -5;").settles(), 0);
        ReliefDesk least = desk("member a 0 0;member b 50 0;owns a b 100 0;period a 0 9 2;period b 0 9 -2;");
        due("one of 1", least.settles(), 1);
        says(32, "The k-th payment (0 on), what 0 who pays, 1 whom, 2 how much;");
        for (int k = 0; k < 7; k++) {
            BENCH.dueEach(x, "settling", args(k), 7 - k, 0, (7 - k) * 50);
        }
        BENCH.dueEach(least, "settling", args(0), 0, 1, 1);
        says(32, "-2: there are not so many;");
        due("the eighth", x.settling(7, 0), -2);
        due("most", x.settling(MOST, 2), -2);
        due("none at all", desk(FOUR).settling(0, 0), -2);
        says(32, "NONE: no such ones.");
        due("k -1", x.settling(-1, 0), NONE);
        due("k least", x.settling(LEAST, 0), NONE);
        limits(x, "settling", args(0, 0), 1, 0, 2, NONE);
        due("no what, not so many", x.settling(7, 3), NONE);
    }

    private static void taxes() {
        says(33, "TAX of a MEMBER;");
        ReliefDesk x = desk("member a 0 99;member b 0 1;period a 0 9 99999;period b 0 9 99;period b 10 19 100;period b 20 29 -100;");
        due("99 percent of 99999, downwards", x.tax(0), 98999);
        due("0 of 99, 1 of 100", x.tax(1), 1);
        due("no PERIODS", desk(FOUR).tax(3), 0);
        says(33, "NONE: no such one.");
        limits(desk(SQUARE), "tax", args(0), 0, 0, 3, NONE);
    }

    // ---- 34 to 46: as if it were otherwise ----

    private static void withoutOne() {
        says(34, "All RELIEF, if a MEMBER had no PERIODS (its CLAIMS are not there then either);");
        ReliefDesk x = desk(SQUARE);
        x.claim(0, 2, 40);
        x.claim(1, 3, 10);
        due("as it is", x.solved(0), 150);
        due("without a the 40 of c are OPEN again", x.without(0), 90);
        due("without b", x.without(1), 60);
        due("without c", x.without(2), 90);
        due("without d", x.without(3), 60);
        ReliefDesk y = desk(SQUARE.replace("d 0 9 100", "d 0 9 10"));
        y.claim(0, 2, 100);
        due("10 as it is", y.solved(0), 10);
        due("without a b has all of c and d", y.without(0), 100);
        due("without d nothing is left to b", y.without(3), 0);
        due("a CLAIM between others stays", y.without(1), 0);
        ReliefDesk large = desk(SQUARE.replace("c 0 9 100", "c 0 9 300"));
        large.claim(0, 2, 40);
        large.claim(1, 3, 10);
        due("without d b has its 10 again", large.without(3), 60 + 100);
        large = desk(SQUARE.replace("a 0 9 -100", "a 0 9 -300"));
        large.claim(0, 2, 40);
        large.claim(1, 3, 10);
        due("without b d has its 10 again", large.without(1), 60 + 100);
        ReliefDesk owner = desk(FOUR + "period b 0 9 -7;period c 0 9 7;");
        due("its parts stay", owner.without(0), 7);
        due("none at all", desk(FOUR).without(0), 0);
        leavesAll(z -> z.without(1));
        says(34, "NONE: no such MEMBER.");
        limits(x, "without", args(0), 0, 0, 3, NONE);
    }

    private static void worths() {
        String narrow = TWO + "owns a b 100 0;period a 0 9 -100;period b 0 4 60;";
        says(35, "How much more all RELIEF would be, were ROOM of a LINK so much more, m 1 .. 99999;");
        ReliefDesk x = desk(narrow);
        due("1 more", x.worth(0, 1, 1), 1);
        due("10 more, all the PROFIT", x.worth(0, 1, 10), 10);
        due("11 more", x.worth(0, 1, 11), 10);
        due("most", x.worth(0, 1, 99999), 10);
        due("a LINK without SHARED", desk(TWO + "period a 0 9 -50;period b 0 9 30;").worth(0, 1, 99999), 30);
        due("with the greatest ROOM", desk(WIDE).worth(0, 2, 99999), 0);
        x.claim(0, 1, 45);
        due("behind CLAIMS", x.worth(0, 1, 99999), 10);
        says(36, "How much less all RELIEF would be, were ROOM of a LINK so much less (0 at least), m 1 .. 99999;");
        ReliefDesk y = desk(narrow);
        due("1 less", y.lack(0, 1, 1), 1);
        due("all less", y.lack(0, 1, 50), 50);
        due("0 at least", y.lack(0, 1, 51), 50);
        due("most", y.lack(0, 1, 99999), 50);
        due("another way for it", desk(SQUARE).lack(0, 2, 100), 0);
        due("no way for 1 of it", desk(SQUARE.replace("b 0 9 -100", "b 0 9 -1")).lack(0, 2, 1), 0);
        due("ROOM 0 already", desk(TWO + "period a 0 9 -50;period b 0 9 30;").lack(0, 1, 5), 0);
        y.claim(0, 1, 45);
        due("behind CLAIMS ROOM is 5", y.lack(0, 1, 99999), 5);
        for (String name : new String[] {"worth", "lack"}) {
            says(name.equals("worth") ? 35 : 36, "NONE: it is none, no such m.");
            ReliefDesk z = desk(SQUARE);
            limits(z, name, args(0, 2, 1), 0, 0, 1, NONE);
            limits(z, name, args(0, 2, 1), 1, 2, 3, NONE);
            limits(z, name, args(0, 2, 1), 2, 1, 99999, NONE);
            due("from a PROFIT", Bench.call(z, name, 2, 0, 1), NONE);
            due("neither", Bench.call(z, name, 0, 1, 0), NONE);
            leavesAll(w -> Bench.call(w, name, 0, 2, 5));
        }
    }

    private static void byCarries() {
        says(37, "All RELIEF, if carry were c 0, 1 (no CLAIMS);");
        String both = "member a 10 0;member b 0 0;owns a b 100 0;period a 0 9 -100;period a 10 19 30;period b 0 9 50;";
        for (int carry = 0; carry <= 1; carry++) {
            ReliefDesk x = desk("carry " + carry + ";" + both);
            due("c 0", x.byCarry(0), 50);
            due("c 1", x.byCarry(1), 80);
            x.claim(0, 2, 50);
            due("no CLAIMS", x.byCarry(1), 80);
            due("no CLAIMS", x.byCarry(0), 50);
            due("carry stays", x.count(10), carry);
            due("the LINK is as it was", x.bound(0, 1), carry == 1 ? 30 : NONE);
        }
        leavesAll(y -> y.byCarry(1));
        says(37, "NONE: no such c.");
        limits(desk(both), "byCarry", args(0), 0, 0, 1, NONE);
        says(38, "RELIEF on CARRIES (what 0), on all other LINKS (1), CLAIMS on CARRIES (2), on others (3), each together;");
        ReliefDesk x = desk("carry 1;" + both);
        BENCH.dueEach(x, "carried", args(), 30, 50, 0, 0);
        x.claim(0, 1, 10);
        x.claim(0, 2, 7);
        x.claim(0, 1, 1);
        x.claim(0, 2, 2);
        BENCH.dueEach(x, "carried", args(), 19, 41, 11, 9);
        BENCH.dueEach(desk(both), "carried", args(), 0, 50, 0, 0);
        x.withdraw(3);
        BENCH.dueEach(x, "carried", args(), 19, 43, 11, 7);
        ReliefDesk thirty = new ReliefDesk();
        thirty(thirty);
        BENCH.dueEach(thirty, "carried", args(), 0, 110, 0, 90);
        says(38, "NONE for another what.");
        limits(x, "carried", args(0), 0, 0, 3, NONE);
    }

    private static void firstRoutes() {
        says(39, "The k-th PERIOD (0 on) of the first ROUTE, as RELIEF begins;");
        ReliefDesk x = desk(SQUARE.replace("a 10 0", "a 30 0"));
        due("from b", x.route(0), 1);
        due("to c", x.route(1), 2);
        x.claim(1, 2, 100);
        due("behind the CLAIM from a", x.route(0), 0);
        due("to d", x.route(1), 3);
        says(39, "-2: there are not so many, no ROUTE;");
        due("two PERIODS", x.route(2), -2);
        due("most", x.route(MOST), -2);
        due("no PERIODS", desk(FOUR).route(0), -2);
        due("no ROUTE", desk(TWO + "period a 0 9 -5;period b 0 9 5;").route(0), -2);
        x.claim(0, 3, 100);
        due("all used up", x.route(0), -2);
        says(39, "NONE: k is below 0.");
        due("-1", x.route(-1), NONE);
        due("least", x.route(LEAST), NONE);
        due("no ROUTE either", desk(FOUR).route(-1), NONE);
    }

    private static void steps() {
        says(40, "How many owns lie at least between a and b on a DAY 0 .. 999 "
            + "(each PERCENT above 0, from one MEMBER to the next; 0: itself);");
        StringBuilder eight = new StringBuilder();
        for (char c = 'a'; c <= 'h'; c++) {
            eight.append("member ").append(c).append(" 0 0;");
        }
        for (char c = 'a'; c <= 'g'; c++) {
            eight.append("owns ").append(c).append(" ").append((char) (c + 1)).append(" 1 0;");
        }
        ReliefDesk x = desk(eight.toString());
        for (int b = 0; b < 8; b++) {
            due("a to " + b, x.steps(0, b, 0), b);
            due(b + " to itself", x.steps(b, b, 999), 0);
        }
        x.own(0, 6, 1, 999);
        due("six yet", x.steps(0, 6, 998), 6);
        due("one on DAY 999", x.steps(0, 6, 999), 1);
        due("two on DAY 999", x.steps(0, 7, 999), 2);
        due("not shorter to others", x.steps(0, 5, 999), 5);
        ReliefDesk ways = desk("member a 0 0;member b 0 0;member c 0 0;member d 0 0;member e 0 0;"
            + "owns a b 9 0;owns b c 9 0;owns a d 9 0;owns c e 9 0;owns d e 9 0;");
        due("by b, c three, by d two", ways.steps(0, 4, 0), 2);
        ways.own(0, 2, 9, 0);
        due("to c at once, though by b, too", ways.steps(0, 2, 0), 1);
        says(40, "-2: there is no such row;");
        due("the other way", x.steps(1, 0, 0), -2);
        x.own(3, 4, 0, 500);
        due("PERCENT 0 from DAY 500 on", x.steps(0, 4, 500), -2);
        due("the DAY ahead", x.steps(0, 4, 499), 4);
        due("behind it neither", x.steps(2, 7, 500), -2);
        due("from behind it yet", x.steps(4, 7, 500), 3);
        due("past it", x.steps(0, 7, 999), 2);
        says(40, "NONE: no such ones.");
        limits(x, "steps", args(3, 3, 0), 0, 0, 7, NONE);
        limits(x, "steps", args(3, 3, 0), 1, 0, 7, NONE);
        limits(x, "steps", args(3, 3, 0), 2, 0, 999, NONE);
    }

    /* b is owned by 60, c by 80 percent: RELIEF 80 up to GATE 60, 50 up to GATE 80, then 0. */
    private static final String GATED = "member a 0 0;member b 0 0;member c 0 0;owns a b 60 0;owns a c 80 0;"
        + "period a 0 9 -100;period b 0 9 30;period c 0 9 50;";

    private static void gates() {
        says(41, "All RELIEF, if GATE were g 1 .. 100 (no CLAIMS);");
        ReliefDesk x = desk(GATED);
        x.claim(0, 2, 50);
        int[][] rows = {{1, 80}, {59, 80}, {60, 80}, {61, 50}, {75, 50}, {80, 50}, {81, 0}, {100, 0}};
        for (int[] row : rows) {
            due("byGate(" + row[0] + ")", x.byGate(row[0]), row[1]);
        }
        due("GATE stays", x.count(4), 75);
        due("as it is", x.solved(0), 0);
        due("all of it", desk("gate 1;" + TWO + "owns a b 100 0;period a 0 9 -7;period b 0 9 7;").byGate(100), 7);
        due("1 percent", desk("gate 100;" + TWO + "owns a b 1 0;period a 0 9 -7;period b 0 9 7;").byGate(1), 7);
        due("CARRIES go by no GATE", desk("carry 1;member a 0 0;period a 0 9 -7;period a 10 10 7;").byGate(100), 7);
        leavesAll(y -> y.byGate(1));
        says(41, "NONE: no such g.");
        limits(x, "byGate", args(1), 0, 1, 100, NONE);
    }

    private static void gatesFor() {
        says(42, "The greatest GATE 1 .. 100 by which all RELIEF without CLAIMS is n or more, n 0 .. 9999999;");
        ReliefDesk x = desk(GATED);
        x.claim(0, 2, 50);
        int[][] rows = {{0, 100}, {1, 80}, {49, 80}, {50, 80}, {51, 60}, {79, 60}, {80, 60}};
        for (int[] row : rows) {
            due("gateFor(" + row[0] + ")", x.gateFor(row[0]), row[1]);
        }
        for (int percent = 1; percent <= 100; percent++) {
            ReliefDesk y = desk(TWO + "owns a b " + percent + " 0;period a 0 9 -7;period b 0 9 7;");
            /* As floats 53 and 59 percent are a little less. */
            due(percent + " percent", y.gateFor(7), percent == 53 || percent == 59 ? percent - 1 : percent);
        }
        says(42, "-2: by none;");
        due("81", x.gateFor(81), -2);
        due("most", x.gateFor(9999999), -2);
        due("nothing there", desk(FOUR).gateFor(1), -2);
        due("nothing there, nothing wanted", desk(FOUR).gateFor(0), 100);
        due("owned by none", desk(TWO + "period a 0 9 -7;period b 0 9 7;").gateFor(1), -2);
        leavesAll(y -> y.gateFor(1));
        says(42, "NONE: no such n.");
        limits(x, "gateFor", args(0), 0, 0, 9999999, NONE);
    }

    private static void days() {
        says(43, "The first DAY 0 .. 999 on which two MEMBERS are RELATED (what 0), the last one (1), how many such DAYS (2);");
        ReliefDesk x = desk("member a 0 0;member b 0 0;member c 0 0;owns a b 75 0;");
        BENCH.dueEach(x, "days", args(0, 1), 0, 999, 1000);
        BENCH.dueEach(x, "days", args(1, 0), 0, 999, 1000);
        x.own(0, 1, 74, 1);
        BENCH.dueEach(x, "days", args(0, 1), 0, 0, 1);
        x.own(0, 1, 75, 999);
        BENCH.dueEach(x, "days", args(0, 1), 0, 999, 2);
        x.own(0, 1, 0, 0);
        BENCH.dueEach(x, "days", args(0, 1), 999, 999, 1);
        x.own(0, 2, 100, 500);
        x.own(0, 1, 100, 600);
        x.own(0, 2, 0, 700);
        BENCH.dueEach(x, "days", args(1, 2), 600, 699, 100);
        says(43, "-2: on none (of 0, 1);");
        ReliefDesk apart = desk(FOUR + "member e 0 0;");
        BENCH.dueEach(apart, "days", args(0, 4), -2, -2, 0);
        says(43, "NONE: no such ones, not unlike.");
        limits(apart, "days", args(0, 1, 0), 2, 0, 2, NONE);
        due("no what, on none", apart.days(0, 4, 3), NONE);
        limits(apart, "days", args(0, 4, 0), 0, 0, 3, NONE);
        limits(apart, "days", args(4, 0, 0), 0, 1, 4, NONE);
        limits(apart, "days", args(4, 0, 0), 1, 0, 3, NONE);
        limits(apart, "days", args(0, 4, 0), 1, 1, 4, NONE);
        for (int m = 0; m < 5; m++) {
            due("not unlike", apart.days(m, m, 2), NONE);
        }
    }

    private static void firstDays() {
        says(44, "All RELIEF, if the first DAY of a PERIOD were d, no more than its last one, "
            + "with no DAY in common with others of its MEMBER, RESULT as it is (no CLAIMS);");
        String text = TWO + "owns a b 100 0;period a 10 19 -100;period b 10 19 100;period a 5 7 0;period b 0 4 0;";
        ReliefDesk x = desk(text);
        x.claim(0, 1, 100);
        due("as it is, without the CLAIM", x.ifFirst(0, 10), 100);
        due("its last DAY: one DAY of ten", x.ifFirst(0, 19), 10);
        due("right behind the one ahead: ten DAYS of twelve", x.ifFirst(0, 8), 83);
        due("of the PROFIT, five DAYS of ten", x.ifFirst(1, 15), 50);
        due("of the PROFIT from 5 on: ten of fifteen", x.ifFirst(1, 5), 66);
        due("of one with RESULT 0", x.ifFirst(2, 0), 100);
        due("DAY 0", x.ifFirst(3, 0), 100);
        due("the first DAY stays", x.period(0, 1), 10);
        ReliefDesk carry = desk("carry 1;member a 0 0;period a 10 19 -7;period a 30 39 7;");
        due("a CARRY from its DAY on", carry.ifFirst(1, 20), 7);
        leavesAll(y -> y.ifFirst(0, 5));
        says(44, "-2: a DAY in common;");
        due("the last DAY of the one ahead", x.ifFirst(0, 7), -2);
        due("the DAY ahead of it", x.ifFirst(0, 4), -2);
        due("all of it within", x.ifFirst(0, 0), -2);
        due("of b", x.ifFirst(1, 4), -2);
        due("a CARRY", carry.ifFirst(1, 19), -2);
        says(44, "NONE: no such ones.");
        limits(x, "ifFirst", args(3, 0), 1, 0, 4, NONE);
        limits(x, "ifFirst", args(2, 0), 1, 0, 7, NONE);
        limits(x, "ifFirst", args(0, 4), 0, 0, 3, NONE);
        due("behind its last DAY", x.ifFirst(0, 20), NONE);
        due("below 0, with a DAY in common", x.ifFirst(0, -1), NONE);
    }

    private static void dearest() {
        says(45, "The LINK with RELIEF of the greatest PRICE, the first by LOSS, then PROFIT: 16 times the LOSS, and the PROFIT;");
        due("b to d", desk(SQUARE).dearest(), 16 + 3);
        due("like ones: the first LOSS", desk(SQUARE.replace("b 20 0", "b 10 0")).dearest(), 2);
        ReliefDesk x = desk(SQUARE.replace("a 0 9 -100", "a 0 9 -150").replace("b 20 0", "b 5 0"));
        due("a to c is full by b: a to d", x.dearest(), 3);
        x = desk(SQUARE.replace("b 0 9 -100", "b 0 9 -150").replace("a 0 9 -100", "a 0 9 -50"));
        due("like ones: the first PROFIT", x.dearest(), 16 + 2);
        due("PRICE 0", desk(SQUARE.replace("a 10", "a 0").replace("b 20", "b 0")).dearest(), 2);
        StringBuilder text = new StringBuilder("carry 1;member a 0 0;");
        for (int p = 0; p < 12; p++) {
            text.append("period a ").append(p).append(" ").append(p).append(p < 10 ? " 0;" : p == 10 ? " -5;" : " 5;");
        }
        due("the last ones", desk(text.toString()).dearest(), 16 * 10 + 11);
        says(45, "-2: there is none.");
        due("no PERIODS", desk(FOUR).dearest(), -2);
        due("no RELIEF", desk(TWO + "period a 0 9 -5;period b 0 9 5;").dearest(), -2);
        x = desk(SQUARE);
        x.claimAll();
        due("all CLAIMED", x.dearest(), -2);
    }

    private static void chances() {
        says(46, "BY CHANCE n 1 .. 60 times from a seed 0 .. 2147483647 on (-1: that of the TEXT), "
            + "what 0 how many CLAIMS came, 1 how much, 2 all RELIEF then;");
        ReliefDesk x = desk("seed 12;" + WIDE);
        for (int n = 1; n <= 60; n += 59) {
            for (int what = 0; what <= 2; what++) {
                due("-1 is the seed of the TEXT", x.chance(-1, n, what), x.chance(12, n, what));
            }
        }
        due("RELIEF is what is left", x.chance(12, 60, 2), 2 * 99999 - x.chance(12, 60, 1));
        int from = x.chance(7, 60, 0);
        due("no more than sixty, no fewer than one", from > 0 && from <= 30 ? 1 : 0, 1);
        for (int what = 0; what <= 2; what++) {
            int asked = what;
            leavesAll(y -> y.chance(MOST, 60, asked));
        }
        due("behind it no CLAIMS are there", x.byGate(75), 2 * 99999);
        x.chance(12, 60, 0);
        due("behind it no CLAIMS are there", x.byCarry(0), 2 * 99999);
        x.chance(12, 60, 0);
        due("behind it no CLAIMS are there", x.ifFirst(0, 0), 2 * 99999);
        says(46, "NONE: no such ones, fewer than one PERIOD.");
        limits(x, "chance", args(0, 1, 0), 0, -1, MOST, NONE);
        limits(x, "chance", args(0, 1, 0), 1, 1, 60, NONE);
        limits(x, "chance", args(0, 1, 0), 2, 0, 2, NONE);
        due("no PERIOD", desk(FOUR).chance(0, 1, 0), NONE);
        due("one PERIOD", desk("member a 0 0;period a 0 0 1;").chance(0, 1, 0), 0);
    }

    // ---- 47 to 50 ----

    private static void undone() {
        says(47, "UNDO: how many can be undone yet;");
        ReliefDesk x = busy();
        due("six there", x.count(8), 6);
        int[][] rows = {{5, 4, 1}, {4, 4, 1}, {3, 4, 2}, {2, 4, 1}, {1, 4, 0}, {0, 3, 0}};
        for (int[] row : rows) {
            due("undo", x.undo(), row[0]);
            due("can be undone yet", x.count(8), row[0]);
            due("owns", x.count(2), row[1]);
            due("CLAIMS", x.count(3), row[2]);
        }
        due("the IMAGE stays", x.back(), 1);
        due("what undo() did cannot be undone", x.undo(), NONE);
        x = desk(SQUARE);
        for (int k = 1; k <= 21; k++) {
            x.result(0, -k);
        }
        due("20 at most", x.count(8), 20);
        for (int k = 20; k >= 1; k--) {
            due("undo", x.undo(), k - 1);
            due("RESULT", x.period(0, 3), -k);
        }
        due("the first of 21 stays", x.undo(), NONE);
        ReliefDesk bare = desk(TWO);
        due("the first own", bare.own(0, 1, 80, 0), 1);
        due("undone", bare.undo(), 0);
        due("no owns", bare.count(2), 0);
        due("no part", bare.percent(0, 1, 999), 0);
        due("RESULT", x.period(0, 3), -1);
        /* A withdrawn one of 30 comes back at its own number. */
        ReliefDesk full = new ReliefDesk();
        thirty(full);
        full.withdraw(3);
        due("undone", full.undo(), 19);
        due("30 again", full.count(3), 30);
        for (int k = 0; k < 30; k++) {
            BENCH.dueEach(full, "claimed", args(k), k % 2, 2 + k % 2, 1 + k % 5);
        }
        full.withdraw(0);
        full.withdraw(28);
        full.undo();
        due("two undone", full.undo(), 18);
        for (int k = 0; k < 30; k++) {
            BENCH.dueEach(full, "claimed", args(k), k % 2, 2 + k % 2, 1 + k % 5);
        }
        /* 24 owns, of which the last eight can be undone. */
        full = new ReliefDesk();
        twentyFour(full);
        for (int k = 8; k >= 1; k--) {
            due("undo", full.undo(), k);
        }
        due("told ones and the CLAIM", full.count(2), 16);
        due("the CLAIM", full.undo(), 0);
        says(47, "NONE: none could.");
        refused("a new TEXT", y -> Bench.tell(y, SQUARE), ReliefDesk::undo, NONE);
        refused("a new object", y -> { }, ReliefDesk::undo, NONE);
        refused("back at the IMAGE", y -> {
            busy(y);
            y.back();
        }, ReliefDesk::undo, NONE);
    }

    private static void images() {
        says(48, "An IMAGE is kept (in place of one ahead): how many CLAIMS.");
        due("of nothing", new ReliefDesk().keep(), 0);
        ReliefDesk x = new ReliefDesk();
        thirty(x);
        due("30", x.keep(), 30);
        due("in place of the one ahead, that had none", x.back(), 30);
        x.withdraw(0);
        due("29", x.keep(), 29);
        due("in place of the one ahead", x.back(), 29);
        x = busy();
        due("what can be undone", x.count(8), 6);
        x.keep();
        due("stays", x.count(8), 6);
        due("TAPE", x.count(9), 20);
        due("undo goes on", x.undo(), 5);
        due("but not in the IMAGE", x.back(), 2);

        says(49, "All is as in the IMAGE (it stays; nothing to undo then): how many CLAIMS;");
        x = busy();
        due("one CLAIM", x.back(), 1);
        BENCH.dueEach(x, "claimed", args(0), 0, 2, 10);
        due("RESULT", x.period(2, 3), 100);
        due("owns", x.count(2), 4);
        due("nothing to undo", x.count(8), 0);
        due("nothing to undo", x.undo(), NONE);
        due("the TAPE stays", x.count(9), 20);
        due("the FAULT stays", x.fault(0), 2);
        x.claim(1, 3, 3);
        x.result(0, 9);
        x.own(0, 1, 1, 1);
        due("it stays", x.back(), 1);
        due("owns", x.count(2), 4);
        due("CLAIMS", x.count(3), 1);
        due("RELIEF", x.solved(0), 190);
        x = desk(SQUARE);
        x.own(1, 2, 33, 7);
        x.keep();
        x.undo();
        x.own(0, 3, 44, 8);
        due("other parts", x.percent(0, 3, 8), 44);
        x.back();
        due("as in the IMAGE", x.percent(1, 2, 7), 33);
        due("from its DAY on", x.percent(1, 2, 6), 0);
        due("and the other one not", x.percent(0, 3, 8), 100);
        ReliefDesk full = new ReliefDesk();
        twentyFour(full);
        due("16 owns again", full.back() == 1 ? full.count(2) : 0, 16);
        due("and eight more", full.own(0, 1, 5, 5), 17);
        says(49, "NONE: there is none.");
        refused("a new object", y -> { }, ReliefDesk::back, NONE);
        refused("none kept", y -> {
            Bench.tell(y, SQUARE);
            y.claim(0, 2, 5);
        }, ReliefDesk::back, NONE);
        refused("gone with a new TEXT", y -> {
            claimed(y);
            Bench.tell(y, SQUARE);
        }, ReliefDesk::back, NONE);
    }

    private static void counts() {
        says(50, "0 MEMBERS, 1 PERIODS, 2 owns, 3 CLAIMS, 4 GATE, 5 price, 6 LOSSES, 7 PROFITS, 8 what can be undone, "
            + "9 bytes of the TAPE, 10 carry.");
        BENCH.dueEach(busy(), "count", args(), 4, 4, 4, 2, 75, 0, 2, 2, 6, 20, 0);
        ReliefDesk full = desk(FULL);
        for (int k = 0; k < 8; k++) {
            full.own(0, 1, 100, k);
        }
        for (int k = 0; k < 30; k++) {
            full.claim(k % 4, 4 + k % 4, 1);
        }
        while (full.count(9) < 700) {
            full.feed(0, 0, 0, 0, 0);
        }
        BENCH.dueEach(full, "count", args(), 8, 12, 24, 30, 100, 2, 4, 7, 20, 700, 1);
        full.text(0);
        BENCH.dueEach(full, "count", args(), 0, 0, 0, 0, 75, 0, 0, 0, 0, 0, 0);
        says(50, "NONE for another what.");
        limits(busy(), "count", args(0), 0, 0, 10, NONE);
    }

    // ---- all of them together ----

    /** PERIOD 0 is a PROFIT, and a PERIOD of later DAYS is told ahead of one of earlier DAYS. */
    private static void profitsFirst() {
        says(24, "RELIEF of a LINK;");
        ReliefDesk x = desk(FOUR + "carry 1;period c 0 9 100;period a 10 19 7;period a 0 9 -60;");
        due("to c", x.relief(2, 0), 53);
        due("a CARRY", x.relief(2, 1), 7);
        due("BOUND", x.bound(2, 0), 60);
        due("BOUND of the CARRY", x.bound(2, 1), 7);
        BENCH.dueEach(x, "solved", args(), 60, 530, 2, 2);
        BENCH.dueEach(x, "carried", args(), 7, 53, 0, 0);
        due("the CARRY is cheapest", x.route(1), 1);
        due("dearest", x.dearest(), 32);
        due("c pays", x.pays(2, 0), 5);
        due("to a", x.pays(0, 1), 5);
        due("c owes", x.owes(2, 0), 5);
        due("left", x.left(0), 47);
        due("TAX of c", x.tax(2), 18);
        due("REACHED", x.reached(), 0);
        due("without c", x.without(2), 7);
        due("lack", x.lack(2, 0, 10), 3);
        due("claimAll", x.claimAll(), 2);
        BENCH.dueEach(x, "claimed", args(0), 2, 0, 53, 5);
        BENCH.dueEach(x, "claimed", args(1), 2, 1, 7, 0);
    }

    private static void fullDesk() {
        says(24, "RELIEF of a LINK;");
        ReliefDesk x = desk(FULL);
        int[][] links = {{0, 4, 99}, {1, 5, 94}, {1, 9, 5}, {2, 5, 5}, {2, 6, 89}, {2, 10, 5}, {3, 6, 10}, {3, 7, 84}, {3, 11, 5}};
        for (int[] link : links) {
            due("relief", x.relief(link[0], link[1]), link[2]);
        }
        BENCH.dueEach(x, "solved", args(), 396, 381 * 9, 9, 9);
        BENCH.dueEach(x, "carried", args(), 15, 381, 0, 0);
        int[] balances = {8, 8, 8, 7, -8, -8, -8, -7};
        for (int m = 0; m < 8; m++) {
            due("balance", x.balance(m), balances[m]);
            due("TAX at RATE 0", x.tax(m), 0);
            due("PERIODS", x.member(m, 2), 1 << m | (m < 4 ? 1 << m + 8 : 0));
        }
        due("payments", x.settles(), 4);
        for (int k = 0; k < 4; k++) {
            BENCH.dueEach(x, "settling", args(k), 4 + k, k, k == 3 ? 7 : 8);
        }
        for (int p = 0; p < 12; p++) {
            due("left", x.left(p), p == 7 ? 15 : 0);
        }
        due("REACHED", x.reached(), 0);
        due("dearest", x.dearest(), 4);
        due("route", x.route(0), 1);
        due("groups", x.groups(0), 1);
        due("without h", x.without(7), 312);
        due("without a", x.without(0), 297);
        due("no LINK", x.bound(11, 3), NONE);
        due("worth", x.worth(3, 11, 99999), 0);
        due("lack", x.lack(0, 4, 99), 0);
        due("byCarry(0)", x.byCarry(0), 396);
        due("byGate(1)", x.byGate(1), 396);
        due("gateFor", x.gateFor(396), 100);
        due("ifFirst", x.ifFirst(11, 10), 396);
        due("a DAY in common", x.ifFirst(11, 9), -2);
        due("claimAll", x.claimAll(), 9);
        for (int k = 0; k < 9; k++) {
            BENCH.dueEach(x, "claimed", args(k), links[k][0], links[k][1], links[k][2]);
        }
        BENCH.dueEach(x, "carried", args(), 0, 0, 15, 381);
        due("chance: nothing is OPEN", x.chance(-1, 60, 0), 0);
        due("undone", x.undo(), 0);
        due("RELIEF again", x.solved(0), 396);
    }

    /** 24 owns, each from another DAY on, none from DAY 0 on: as many stretches of DAYS as there can be. */
    private static void manyDays() {
        says(43, "The first DAY 0 .. 999 on which two MEMBERS are RELATED (what 0), the last one (1), how many such DAYS (2);");
        StringBuilder text = new StringBuilder(TWO + "period a 0 999 -1000;period b 0 999 1000;");
        for (int k = 0; k < 16; k++) {
            text.append("owns a b ").append(k % 2 == 0 ? 75 : 74).append(" ").append(10 + 10 * k).append(";");
        }
        ReliefDesk x = desk(text.toString());
        BENCH.dueEach(x, "days", args(0, 1), 10, 159, 80);
        for (int k = 16; k < 24; k++) {
            x.own(0, 1, k % 2 == 0 ? 75 : 74, 10 + 10 * k);
        }
        BENCH.dueEach(x, "days", args(0, 1), 10, 239, 120);
        due("SHARED", x.shared(0, 1), 120);
        due("BOUND", x.bound(0, 1), 120);
        due("byGate(74)", x.byGate(74), 990);
        due("one less", x.undo(), 7);
        BENCH.dueEach(x, "days", args(0, 1), 10, 999, 110 + 770);
        due("two less", x.undo(), 6);
        BENCH.dueEach(x, "days", args(0, 1), 10, 219, 110);
        ReliefDesk y = desk(TWO);
        BENCH.dueEach(y, "days", args(0, 1), -2, -2, 0);
        y.own(0, 1, 100, 10);
        BENCH.dueEach(y, "days", args(0, 1), 10, 999, 990);
        y.own(0, 1, 0, 500);
        BENCH.dueEach(y, "days", args(0, 1), 10, 499, 490);
        y.own(0, 1, 100, 900);
        BENCH.dueEach(y, "days", args(0, 1), 10, 999, 590);
        y.undo();
        BENCH.dueEach(y, "days", args(0, 1), 10, 499, 490);
        y.undo();
        BENCH.dueEach(y, "days", args(0, 1), 10, 999, 990);
        y.undo();
        BENCH.dueEach(y, "days", args(0, 1), -2, -2, 0);
    }

    /** What was asked ahead of a change is asked again behind it. */
    private static void askedBetween() {
        ReliefDesk x = desk(SQUARE);
        due("RELIEF", x.solved(0), 200);
        says(18, "A CLAIM of n 1 .. 99999 from a LOSS to a PROFIT: its number;");
        x.claim(0, 2, 30);
        due("behind a CLAIM", x.solved(0), 170);
        says(19, "A CLAIM is withdrawn (those behind it have one number less): how much it was;");
        x.withdraw(0);
        due("behind its withdrawal", x.solved(0), 200);
        due("left", x.left(0), 0);
        says(22, "RESULT of a PERIOD becomes v -99999 .. 99999: true;");
        x.result(0, -10);
        due("behind a RESULT", x.solved(0), 110);
        due("BOUND", x.bound(0, 2), 10);
        says(23, "From a DAY 0 .. 999 on a MEMBER owns PERCENT 0 .. 100 of another one whose number is greater");
        x.own(0, 1, 0, 0);
        due("behind parts: b alone", x.solved(0), 10);
        due("b and c", x.days(1, 2, 2), 0);
        says(48, "An IMAGE is kept (in place of one ahead): how many CLAIMS.");
        x.keep();
        due("behind an IMAGE", x.solved(0), 10);
        says(47, "UNDO: how many can be undone yet;");
        x.undo();
        due("parts undone", x.solved(0), 110);
        due("b and c", x.days(1, 2, 2), 1000);
        x.undo();
        due("RESULT undone", x.solved(0), 200);
        x.undo();
        due("withdrawal undone", x.solved(0), 170);
        x.undo();
        due("CLAIM undone", x.solved(0), 200);
        says(21, "how many came (one that can be undone, if any did).");
        x.claimAll();
        due("behind claimAll()", x.solved(0), 0);
        says(49, "All is as in the IMAGE (it stays; nothing to undo then): how many CLAIMS;");
        x.back();
        due("back", x.solved(0), 10);
        due("BOUND", x.bound(0, 2), 10);
        due("b and c", x.days(1, 2, 2), 0);
        says(3, "The TAPE's first n bytes (it is empty then) are the TEXT");
        Bench.tell(x, FOUR + "period b 0 9 -9;period d 0 9 9;");
        due("a new TEXT", x.solved(0), 9);
        due("b and c", x.days(1, 2, 2), 1000);
    }

    /** Each call as the first one behind the TEXT. */
    private static void askedFirst() {
        String[][] first = {
            {"24", "relief 0 2", "100"}, {"24", "relief 1 2", "0"}, {"25", "solved 0", "200"}, {"25", "solved 1", "3000"},
            {"26", "reached", "0"}, {"27", "left 0", "0"}, {"28", "pays 2 0", "10"}, {"28", "pays 1 1", "20"},
            {"29", "balance 3", "-20"}, {"30", "owes 2 0", "10"}, {"31", "settles", "2"}, {"32", "settling 0 0", "3"},
            {"32", "settling 1 2", "10"}, {"33", "tax 2", "0"}, {"34", "without 0", "100"}, {"35", "worth 0 2 1", "0"},
            {"36", "lack 0 2 1", "0"}, {"37", "byCarry 0", "200"}, {"38", "carried 1", "200"}, {"39", "route 1", "2"},
            {"40", "steps 0 3 0", "1"}, {"41", "byGate 80", "200"}, {"41", "byGate 81", "100"}, {"42", "gateFor 200", "80"},
            {"43", "days 1 2 2", "1000"}, {"44", "ifFirst 0 9", "120"}, {"45", "dearest", "19"}, {"46", "chance 0 1 2", "200"},
            {"14", "shared 0 2", "10"}, {"15", "bound 0 2", "100"}, {"16", "room 0 2", "100"}, {"17", "price 0 2", "10"},
            {"18", "claim 0 2 100", "0"}, {"21", "claimAll", "2"}, {"23", "own 0 1 0 0", "4"}, {"22", "result 0 5", "1"},
            {"11", "controls 0 1 0", "1"}, {"12", "related 0 0", "14"}, {"13", "groups 0", "1"}, {"48", "keep", "0"}
        };
        for (String[] row : first) {
            BENCH.takes(Integer.parseInt(row[0]));
            long answer = Bench.call(desk(SQUARE), row[1].split(" ")[0], numbersOf(row[1]));
            due(row[1] + " ahead of all else", answer, Long.parseLong(row[2]));
        }
    }

    /** Every question that is refused, one behind another on one desk: all stays as on its twin. */
    private static void refusedQuestions() {
        String[][] refused = {
            {"4", "fault 2", "-1"}, {"5", "named 0", "-1"}, {"6", "member 4 0", "-71"}, {"6", "member 0 3", "-72"},
            {"7", "period 4 0", "-999999"}, {"7", "period 0 6", "-999999"}, {"8", "percent 0 0 0", "-1"},
            {"8", "percent 0 1 1000", "-1"}, {"9", "share 4 0 0", "-1"}, {"10", "parts 0 0 -1", "-1"},
            {"11", "controls 1 1 0", "-1"}, {"12", "related 4 0", "-1"}, {"13", "groups 1000", "-1"}, {"14", "shared 0 0", "-1"},
            {"15", "bound 2 0", "-1"}, {"16", "room 2 0", "-1"}, {"17", "price 2 0", "-1"}, {"20", "claimed 2 0", "-1"},
            {"20", "claimed 0 4", "-1"}, {"24", "relief 2 0", "-1"}, {"25", "solved 4", "-1"}, {"27", "left 4", "-1"},
            {"28", "pays 4 0", "-1"}, {"28", "pays 0 4", "-1"}, {"29", "balance 4", "-9999999"}, {"30", "owes 0 0", "-9999999"},
            {"32", "settling 9 0", "-2"}, {"32", "settling 0 3", "-1"}, {"33", "tax 4", "-1"}, {"34", "without 4", "-1"},
            {"35", "worth 2 0 1", "-1"}, {"35", "worth 0 2 0", "-1"}, {"36", "lack 2 0 1", "-1"}, {"36", "lack 0 2 100000", "-1"},
            {"37", "byCarry 2", "-1"}, {"38", "carried 4", "-1"}, {"39", "route 12", "-2"}, {"39", "route -1", "-1"},
            {"40", "steps 3 0 0", "-2"}, {"40", "steps 0 0 1000", "-1"}, {"41", "byGate 0", "-1"}, {"41", "byGate 101", "-1"},
            {"42", "gateFor 9999999", "-2"}, {"42", "gateFor -1", "-1"}, {"43", "days 0 0 0", "-1"}, {"43", "days 0 1 3", "-1"},
            {"44", "ifFirst 0 10", "-1"}, {"44", "ifFirst 4 0", "-1"}, {"46", "chance -2 1 0", "-1"}, {"46", "chance 0 61 0", "-1"},
            {"46", "chance 0 1 3", "-1"}, {"50", "count 11", "-1"}
        };
        ReliefDesk x = busy();
        for (String[] row : refused) {
            BENCH.takes(Integer.parseInt(row[0]));
            due(row[1], Bench.call(x, row[1].split(" ")[0], numbersOf(row[1])), Long.parseLong(row[2]));
        }
        BENCH.same("all that is refused", x, busy());
        BENCH.takes(1);
        ReliefDesk empty = new ReliefDesk();
        for (String[] row : refused) {
            Bench.call(empty, row[1].split(" ")[0], numbersOf(row[1]));
        }
        BENCH.same("all that is refused", empty, new ReliefDesk());
    }
}
