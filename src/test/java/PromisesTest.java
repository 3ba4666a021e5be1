import java.nio.charset.StandardCharsets;
import java.util.NoSuchElementException;

/** Each promise of the document by its number: ordinary inputs, the edges it names, wrong inputs. */
public final class PromisesTest {
    private static int wrong = 0;
    private static int promise = 0;

    /* Asks and rates as one reads them; a controls all three others from day 0 on. */
    private static final String FOUR = "member a 10 0; member b 20 0; member c 50 40; member d 0 80;"
        + "owns a b 80 0; owns a c 100 0; owns a d 100 0;";
    /* Two LOSSES (of a and b), two PROFITS (of c and d), all on the same ten days. */
    private static final String SQUARE = FOUR
        + "period a 0 9 -100; period b 0 9 -100; period c 0 9 100; period d 0 9 100;";
    /* One member with two LOSSES and two PROFITS, one behind another. */
    private static final String LONE = "member a 10 20; carry 1;"
        + "period a 0 9 -100; period a 10 19 60; period a 20 29 -50; period a 30 39 70;";

    public static void main(String[] args) {
        newObject();
        feedText();
        faults();
        membersAndPeriods();
        partsOnDays();
        floats();
        relatives();
        manyStretches();
        links();
        claims();
        claimLimits();
        claimAll();
        resultsAndOwns();
        relief();
        routesInOrder();
        payments();
        otherwise();
        carries();
        gates();
        firstDays();
        chance();
        undone();
        images();
        counts();
        System.out.println(wrong == 0 ? "all promises hold" : wrong + " answers are not as due");
        if (wrong != 0) {
            System.exit(1);
        }
    }

    private static void due(String what, long got, long want) {
        if (got != want) {
            wrong++;
            System.out.println("promise " + promise + ": " + what + " answered " + got + ", due is " + want);
        }
    }

    private static int feedAll(ReliefDesk x, String text) {
        byte[] bytes = text.getBytes(StandardCharsets.ISO_8859_1);
        int[] n = new int[(bytes.length + 19) / 20 * 5];
        for (int k = 0; k < n.length * 4; k++) {
            n[k / 4] = n[k / 4] << 8 | (k < bytes.length ? bytes[k] & 255 : 32);
        }
        int answer = 0;
        for (int k = 0; k < n.length; k += 5) {
            answer = x.feed(n[k], n[k + 1], n[k + 2], n[k + 3], n[k + 4]);
        }
        return answer;
    }

    private static int tell(ReliefDesk x, String text) {
        feedAll(x, text);
        return x.text(text.length());
    }

    private static ReliefDesk desk(String text) {
        ReliefDesk x = new ReliefDesk();
        if (tell(x, text) < 0) {
            wrong++;
            System.out.println("promise " + promise + ": a fault " + x.fault(0) + " at " + x.fault(1) + " in " + text);
        }
        return x;
    }

    private static void fault(String text, int fault, int place) {
        ReliefDesk x = new ReliefDesk();
        due("text of " + text, tell(x, text) < 0 ? -1 : 0, fault == 0 ? 0 : -1);
        due("fault(0) of " + text, x.fault(0), fault);
        due("fault(1) of " + text, x.fault(1), place);
    }

    private static void newObject() {
        promise = 1;
        ReliefDesk x = new ReliefDesk();
        for (int what = 0; what <= 10; what++) {
            due("count(" + what + ")", x.count(what), what == 4 ? 75 : 0);
        }
        due("groups", x.groups(0), 0);
        due("solved", x.solved(0), 0);
        due("NONE", ReliefDesk.NONE, -1);
    }

    private static void feedText() {
        promise = 2;
        ReliefDesk x = new ReliefDesk();
        for (int k = 1; k <= 35; k++) {
            due("feed", x.feed(0x67617465, 0x2031303B, 0x20202020, 0x0A0A0A0A, 0x20202020), 20 * k);
        }
        due("feed beyond 700", x.feed(0, 0, 0, 0, 0), -1);
        due("none come", x.count(9), 700);
        promise = 3;
        due("more than there are", x.text(701), -2);
        due("below 0", x.text(-1), -2);
        due("least", x.text(Integer.MIN_VALUE), -2);
        due("the tape stays", x.count(9), 700);
        due("one line", x.text(20), 1);
        due("gate 10", x.count(4), 10);
        due("the tape is empty", x.count(9), 0);
        due("no line", x.text(0), 0);
        due("gate is 75 again", x.count(4), 75);
        x = desk(SQUARE);
        x.claim(0, 2, 5);
        x.keep();
        due("with a fault", tell(x, "gate 0;"), -1);
        due("members stay", x.count(0), 4);
        due("claims stay", x.count(3), 1);
        due("undo stays", x.count(8), 1);
        due("the tape does not", x.count(9), 0);
        due("the image stays", x.back(), 1);
        due("lines", tell(x, SQUARE + " gate 1 ;price 2;carry 1;seed 7 ;\n"), 15);
        due("no claims", x.count(3), 0);
        due("nothing to undo", x.undo(), -1);
        due("no image", x.back(), -1);
        due("price", x.count(5), 2);
        due("carry", x.count(10), 1);
        due("owns are counted anew", x.count(2), 3);
    }

    private static void faults() {
        promise = 4;
        ReliefDesk x = new ReliefDesk();
        due("fault(0) ahead of all", x.fault(0), 0);
        due("fault(1) ahead of all", x.fault(1), -1);
        due("fault(2)", x.fault(2), -1);
        due("fault(-1)", x.fault(-1), -1);
        tell(x, "gate 0;");
        x.text(5);
        due("-2 leaves the fault", x.fault(0), 2);
        due("-2 leaves its place", x.fault(1), 5);
        due("without a fault", tell(x, "gate\n1;"), 1);
        due("fault(0)", x.fault(0), 0);
        due("fault(1)", x.fault(1), -1);
        tokensThatCannotStand();
        numbersThatAreTooMuch();
        toldAlready();
        fault("owns a b 1 0;", 4, 5);
        fault("member a 1 1;owns a b 1 0;", 4, 20);
        fault("period a 1 2 3;", 4, 7);
        fault("", 0, -1);
        fault(" \n ", 0, -1);
        fault("member a1 2;owns a", 1, 18);
        fault("member a0000000000000000099 2;", 0, -1);
    }

    private static void tokensThatCannotStand() {
        fault(";", 1, 0);
        fault("a", 1, 0);
        fault("7", 1, 0);
        fault("Gate 7;", 1, 0);
        fault("gates 7;", 1, 0);
        fault("gate\t7;", 1, 4);
        fault("gate " + (char) 233 + "7;", 1, 5);
        fault("gate", 1, 4);
        fault("gate  ", 1, 6);
        fault("gate 7", 1, 6);
        fault("gate 7 ", 1, 7);
        fault("gate 7 7;", 1, 7);
        fault("gate -7;", 1, 5);
        fault("gate - 7;", 1, 5);
        fault("gate a;", 1, 5);
        fault("gate gate;", 1, 5);
        fault("member abcdefg 1 1;", 1, 7);
        fault("member abcdef 1 1;", 0, -1);
        fault("member seed 1 1;", 1, 7);
        fault("member 5 1 1;", 1, 7);
        fault("member a 1 -1;", 1, 11);
        fault("member a 1;", 1, 10);
        fault("member a 1 1 member", 1, 13);
        fault("member a 1 1;period a 0 0 -;", 1, 26);
        fault("member a 1 1;period a 0 0 - 5;", 1, 26);
        fault("member a 1 1;period a 0 0 --5;", 1, 26);
        fault("member a 1 1;period a -0 0 5;", 1, 22);
        fault("member a 1 1;period a 0 0 -5;", 0, -1);
        fault("member a 1 1;period a 0 0-5;", 0, -1);
        fault("member a 1 1;period a 0 0;", 1, 25);
        fault("abcdefg 1;", 1, 0);
    }

    private static void numbersThatAreTooMuch() {
        fault("gate 0;", 2, 5);
        fault("gate 1;", 0, -1);
        fault("gate 100;", 0, -1);
        fault("gate 101;", 2, 5);
        fault("gate 4294967297;", 2, 5);
        fault("price 2;", 0, -1);
        fault("price 3;", 2, 6);
        fault("carry 1;", 0, -1);
        fault("carry 2;", 2, 6);
        fault("seed 0;price 0;carry 0;", 0, -1);
        fault("seed 99999;", 0, -1);
        fault("seed 100000;", 2, 5);
        fault("member a 99 99;", 0, -1);
        fault("member a 100 99;", 2, 9);
        fault("member a 99 100;", 2, 12);
        String two = "member a 0 0;member b 0 0;";
        fault(two + "owns a b 100 999;", 0, -1);
        fault(two + "owns a b 101 0;", 2, 35);
        fault(two + "owns a b 0 1000;", 2, 37);
        fault(two + "owns b a 0 0;", 2, 33);
        fault(two + "owns a a 0 0;", 2, 33);
        fault(two + "period a 999 999 99999;", 0, -1);
        fault(two + "period a 1000 999 9;", 2, 35);
        fault(two + "period a 0 1000 9;", 2, 37);
        fault(two + "period a 5 4 9;", 2, 37);
        fault(two + "period a 5 5 100000;", 2, 39);
        fault(two + "period a 5 5 -99999;", 0, -1);
        fault(two + "period a 5 5 -100000;", 2, 39);
        fault(two + "period a 0 9 1;period a 12 3 1;", 2, 53);
        StringBuilder members = new StringBuilder();
        for (char c = 'a'; c <= 'h'; c++) {
            members.append("member ").append(c).append(" 0 0;");
        }
        fault(members.toString(), 0, -1);
        fault(members + "member a 0 0;", 2, 104);
        fault(members + "member", 2, 104);
        fault(two + "owns a b 0 0;".repeat(16), 0, -1);
        fault(two + "owns a b 0 0;".repeat(16) + "owns", 2, 26 + 16 * 13);
        StringBuilder periods = new StringBuilder(two);
        for (int k = 10; k < 22; k++) {
            periods.append("period a ").append(k).append(" ").append(k).append(" 1;");
        }
        fault(periods.toString(), 0, -1);
        fault(periods + "period z", 2, periods.length());
    }

    private static void toldAlready() {
        String two = "member a 0 0;member b 0 0;";
        fault("member a 0 0;member a 0 0;", 3, 20);
        fault("member ab 0 0;member a 0 0;", 0, -1);
        fault("gate 7;gate", 3, 7);
        fault("price 1;gate 3;price 2;", 3, 15);
        fault("carry 1;carry 1;", 3, 8);
        fault("seed 1;seed 1;", 3, 7);
        fault(two + "period a 5 9 1;period a 9 10 1;", 3, 52);
        fault(two + "period a 5 9 1;period a 0 5 1;", 3, 52);
        fault(two + "period a 5 9 1;period a 6 7 1;", 3, 52);
        fault(two + "period a 5 9 1;period a 0 99 1;", 3, 52);
        fault(two + "period a 5 9 1;period a 10 10 1;period a 4 4 1;period b 5 9 1;", 0, -1);
    }

    private static int letters(String name) {
        int code = 0;
        for (int k = 0; k < 6; k++) {
            code = code << 5 | (k < name.length() ? name.charAt(k) - 96 : 0);
        }
        return code;
    }

    private static void membersAndPeriods() {
        promise = 5;
        ReliefDesk x = desk("member z 1 2;member ab 3 4;member abcdef 5 6;period ab 3 7 -9;period z 0 0 0;period ab 9 9 8;");
        due("z", x.named(letters("z")), 0);
        due("ab", x.named(letters("ab")), 1);
        due("abcdef", x.named(letters("abcdef")), 2);
        due("a", x.named(letters("a")), -1);
        due("0", x.named(0), -1);
        due("with bits beyond 30", x.named(letters("ab") | 1 << 31), -1);
        due("with bits beyond 30", x.named(letters("ab") | 1 << 30), -1);
        promise = 6;
        due("asks", x.member(2, 0), 5);
        due("rate", x.member(2, 1), 6);
        due("periods", x.member(1, 2), 5);
        due("periods", x.member(2, 2), 0);
        due("no member", thrown(x, 3, 0), 1);
        due("no member", thrown(x, -1, 0), 1);
        due("neither", thrown(x, 3, 3), 1);
        due("no what", thrown(x, 0, 3), 2);
        due("no what", thrown(x, 0, -1), 2);
        promise = 7;
        int[] due = {1, 3, 7, -9, 9, 0};
        for (int what = 0; what < 6; what++) {
            due("period(0, " + what + ")", x.period(0, what), due[what]);
        }
        due("open of 0", x.period(1, 4), 0);
        due("no period", x.period(3, 0), -999999);
        due("no period", x.period(-1, 0), -999999);
        due("no what", x.period(0, 6), -999999);
        due("no what", x.period(0, -1), -999999);
        x = desk(SQUARE);
        x.claim(0, 2, 30);
        x.claim(1, 2, 20);
        due("open of a loss", x.period(0, 4), 70);
        due("taken of a loss", x.period(0, 5), 30);
        due("open of a profit", x.period(2, 4), 50);
        due("taken of a profit", x.period(2, 5), 50);
        due("result stays", x.period(2, 3), 100);
    }

    private static int thrown(ReliefDesk x, int member, int what) {
        try {
            x.member(member, what);
        } catch (IndexOutOfBoundsException e) {
            return 1;
        } catch (NoSuchElementException e) {
            return 2;
        }
        return 0;
    }

    private static void partsOnDays() {
        promise = 8;
        ReliefDesk x = desk("member a 0 0;member b 0 0;member c 0 0;owns a b 80 10;owns a b 30 5;owns a b 40 10;owns b c 90 999;");
        due("ahead of all", x.percent(0, 1, 4), 0);
        due("from its day on", x.percent(0, 1, 5), 30);
        due("till the next", x.percent(0, 1, 9), 30);
        due("the last told of one day", x.percent(0, 1, 10), 40);
        due("later", x.percent(0, 1, 999), 40);
        due("the other way", x.percent(1, 0, 999), 0);
        due("not told", x.percent(0, 2, 999), 0);
        due("the last day", x.percent(1, 2, 999), 90);
        due("the day ahead of it", x.percent(1, 2, 998), 0);
        due("like ones", x.percent(1, 1, 0), -1);
        due("no member", x.percent(0, 3, 0), -1);
        due("no member", x.percent(-1, 0, 0), -1);
        due("no day", x.percent(0, 1, 1000), -1);
        due("no day", x.percent(0, 1, -1), -1);
        promise = 40;
        due("steps to itself", x.steps(1, 1, 0), 0);
        due("one step", x.steps(0, 1, 5), 1);
        due("no row yet", x.steps(0, 2, 998), -2);
        due("two steps", x.steps(0, 2, 999), 2);
        due("backwards", x.steps(2, 0, 999), -2);
        due("none on that day", x.steps(0, 1, 0), -2);
        due("own 1 percent", x.own(0, 2, 1, 20), 5);
        due("the short way", x.steps(0, 2, 999), 1);
        due("own 0 percent", x.own(0, 2, 0, 30), 6);
        due("0 percent is no step", x.steps(0, 2, 999), 2);
        ReliefDesk far = desk("member a 0 0;member b 0 0;member c 0 0;member d 0 0;member e 0 0;"
            + "owns a b 9 0;owns b c 9 0;owns a d 9 0;owns c e 9 0;owns d e 9 0;");
        due("three steps first, then two", far.steps(0, 4, 0), 2);
        due("no member", x.steps(0, 3, 0), -1);
        due("no member", x.steps(-1, 0, 0), -1);
        due("no day", x.steps(0, 0, 1000), -1);
        due("no day", x.steps(0, 0, -1), -1);
    }

    private static void floats() {
        promise = 9;
        ReliefDesk x = desk("member a 0 0;member b 0 0;member c 0 0;member d 0 0;owns a b 80 0;owns b c 95 0;owns a c 3 0;"
            + "owns a d 1 0;owns b d 33 0;owns c d 7 0;owns a b 100 500;owns a c 100 500;owns b c 100 500;");
        float ab = 0f + 1f * (80f / 100f);
        float ac = 0f + 1f * (3f / 100f) + ab * (95f / 100f);
        float ad = 0f + 1f * (1f / 100f) + ab * (33f / 100f) + ac * (7f / 100f);
        due("itself", x.share(0, 0, 0), Float.floatToIntBits(1f));
        due("a chain of one", x.share(0, 1, 0), Float.floatToIntBits(ab));
        due("both ways", x.share(0, 2, 0), Float.floatToIntBits(ac));
        due("all ways", x.share(0, 3, 0), Float.floatToIntBits(ad));
        due("more than 1", x.share(0, 2, 500), Float.floatToIntBits(2f));
        due("less than nothing told", x.share(3, 0, 0), 0);
        due("no member", x.share(4, 0, 0), -1);
        due("no member", x.share(0, -1, 0), -1);
        due("no day", x.share(0, 0, -1), -1);
        due("no day", x.share(0, 0, 1000), -1);
        ReliefDesk small = desk("member a 0 0;member b 0 0;member c 0 0;member d 0 0;owns a b 1 0;owns b c 1 0;owns c d 1 0;");
        float cent = 1f / 100f;
        due("a small one", small.share(0, 3, 0), Float.floatToIntBits((0f + (0f + cent) * cent) * cent));
        promise = 10;
        due("of itself", x.parts(2, 2, 7), 10000);
        due("parts", x.parts(0, 2, 0), 7900);
        due("nearest", x.parts(0, 3, 0), (long) Math.floor(ad * 10000.0 + 0.5));
        due("more than 1", x.parts(0, 2, 999), 20000);
        due("the other way", x.parts(2, 0, 999), 0);
        due("small", small.parts(0, 2, 0), 1);
        due("smaller", small.parts(0, 3, 0), 0);
        due("no member", x.parts(0, 4, 0), -1);
        due("no day", x.parts(0, 0, 1000), -1);
        promise = 11;
        due("at the gate", desk("member a 0 0;member b 0 0;owns a b 75 0;").controls(0, 1, 0), 1);
        due("below the gate", desk("member a 0 0;member b 0 0;owns a b 74 0;").controls(0, 1, 0), 0);
        due("backwards", x.controls(2, 0, 0), 0);
        due("a chain", x.controls(0, 2, 0), 1);
        due("not unlike", x.controls(1, 1, 0), -1);
        due("no member", x.controls(0, 4, 0), -1);
        due("no day", x.controls(0, 1, 1000), -1);
        due("no day", x.controls(0, 1, -1), -1);
        for (int percent = 1; percent <= 100; percent++) {
            ReliefDesk y = desk("gate " + percent + ";member a 0 0;member b 0 0;owns a b " + percent + " 0;");
            due("percent " + percent + " at its gate", y.controls(0, 1, 0), percent / 100f * 100f >= percent ? 1 : 0);
        }
    }

    private static void relatives() {
        promise = 12;
        ReliefDesk x = desk("member a 0 0;member b 0 0;member c 0 0;member d 0 0;member e 0 0;"
            + "owns a c 80 10;owns b c 75 20;owns b d 75 20;owns a c 0 30;");
        due("nobody", x.related(0, 0), 0);
        due("a to c", x.related(0, 10), 4);
        due("c to a", x.related(2, 10), 1);
        due("c to all", x.related(2, 20), 1 | 2 | 8);
        due("a to c alone", x.related(0, 20), 4);
        due("d to b and, by b, to c", x.related(3, 20), 2 | 4);
        due("no member", x.related(5, 0), -1);
        due("no member", x.related(-1, 0), -1);
        due("no day", x.related(0, 1000), -1);
        due("no day", x.related(0, -1), -1);
        promise = 13;
        due("all alone", x.groups(0), 5);
        due("two together", x.groups(10), 4);
        due("hanging together", x.groups(29), 2);
        due("later", x.groups(30), 3);
        due("no day", x.groups(1000), -1);
        due("no day", x.groups(-1), -1);
        promise = 43;
        due("first", x.days(0, 2, 0), 10);
        due("last", x.days(2, 0, 1), 29);
        due("how many", x.days(0, 2, 2), 20);
        due("till the end", x.days(3, 2, 1), 999);
        due("how many till the end", x.days(3, 2, 2), 980);
        due("never", x.days(0, 4, 0), -2);
        due("never", x.days(0, 4, 1), -2);
        due("never", x.days(0, 4, 2), 0);
        due("not unlike", x.days(0, 0, 2), -1);
        due("no member", x.days(0, 5, 0), -1);
        due("no what", x.days(0, 2, 3), -1);
        due("no what", x.days(0, 4, -1), -1);
        x.own(0, 2, 90, 100);
        due("first of two stretches", x.days(0, 2, 0), 10);
        due("last of two stretches", x.days(0, 2, 1), 999);
        due("days of two stretches", x.days(0, 2, 2), 920);
    }

    private static void manyStretches() {
        promise = 23;
        ReliefDesk x = desk("member a 0 0;member b 0 0;period a 0 999 -1000;period b 0 999 1000;");
        for (int k = 1; k <= 24; k++) {
            due("own on a day of its own", x.own(0, 1, k % 2 == 1 ? 80 : 70, 961 - 40 * k), k);
        }
        promise = 14;
        due("from 921 on 79 days, from 841 .. 41 on 40 days each", x.shared(0, 1), 79 + 40 * 11);
        promise = 43;
        due("first", x.days(0, 1, 0), 41);
        due("last", x.days(0, 1, 1), 999);
        due("how many", x.days(0, 1, 2), 519);
        promise = 12;
        for (int k = 1; k <= 24; k++) {
            due("related", x.related(0, 961 - 40 * k), k % 2 == 1 ? 2 : 0);
        }
    }

    private static void links() {
        promise = 14;
        String text = "member a 30 5;member b 7 40;member c 1 2;owns a b 100 5;owns a b 0 8;owns a b 80 12;"
            + "period a 0 9 -1001;period b 3 22 777;period a 10 14 0;period c 0 999 5;period b 23 29 -4;period a 30 30 6;";
        ReliefDesk x = desk(text);
        due("5, 6, 7", x.shared(0, 1), 3);
        due("the other way", x.shared(1, 0), 3);
        due("12, 13, 14, whatever the result", x.shared(2, 1), 3);
        due("not related", x.shared(0, 3), 0);
        due("not at one time", x.shared(0, 4), 0);
        due("one member", x.shared(0, 2), -1);
        due("one period", x.shared(0, 0), -1);
        due("no period", x.shared(0, 6), -1);
        due("no period", x.shared(-1, 0), -1);
        promise = 15;
        due("777 times 3 by 20", x.bound(0, 1), 116);
        due("nothing shared is a link", x.bound(0, 3), 0);
        due("from a profit", x.bound(1, 0), -1);
        due("to nothing", x.bound(0, 2), -1);
        due("from nothing", x.bound(2, 1), -1);
        due("of one member", x.bound(0, 5), -1);
        due("no period", x.bound(0, 6), -1);
        due("no period", x.bound(-1, 1), -1);
        x.result(1, 99999);
        due("1001 times 3 by 10", x.bound(0, 1), 300);
        promise = 16;
        due("room", x.room(0, 1), 300);
        x.claim(0, 1, 100);
        x.claim(0, 1, 7);
        due("room less claims", x.room(0, 1), 193);
        due("bound stays", x.bound(0, 1), 300);
        due("none", x.room(1, 0), -1);
        due("no period", x.room(6, 0), -1);
        promise = 17;
        due("asks", x.price(0, 1), 30);
        due("asks", x.price(4, 5), 7);
        due("none", x.price(1, 0), -1);
        due("no period", x.price(0, 6), -1);
        x = desk("price 1;" + text);
        due("asks and 99 less rate", x.price(0, 1), 89);
        x = desk("price 2;" + text);
        due("the difference", x.price(0, 1), 10);
        due("the difference without sign", x.price(4, 5), 2);
        due("the difference of 30 and 2", x.price(0, 3), 28);
    }

    private static void claims() {
        promise = 18;
        ReliefDesk x = desk(SQUARE);
        due("not from a profit", x.claim(2, 0, 1), -1);
        due("no period", x.claim(0, 4, 1), -1);
        due("no n", x.claim(0, 2, 0), -1);
        due("no n", x.claim(0, 2, 100000), -1);
        due("more than room", x.claim(0, 2, 101), -3);
        due("as much", x.claim(0, 2, 99999), -3);
        due("the first", x.claim(0, 2, 60), 0);
        due("more than open of the loss", x.claim(0, 3, 41), -3);
        due("more than open of the profit", x.claim(1, 2, 41), -3);
        due("more than room now", x.claim(0, 2, 41), -3);
        due("all that is open", x.claim(0, 3, 40), 1);
        due("all that is open", x.claim(1, 2, 40), 2);
        promise = 20;
        int[][] due = {{0, 2, 60, 6}, {0, 3, 40, 4}, {1, 2, 40, 8}};
        for (int k = 0; k < 3; k++) {
            for (int what = 0; what < 4; what++) {
                due("claimed(" + k + ", " + what + ")", x.claimed(k, what), due[k][what]);
            }
        }
        due("no claim", x.claimed(3, 0), -1);
        due("no claim", x.claimed(-1, 0), -1);
        due("no what", x.claimed(0, 4), -1);
        due("no what", x.claimed(0, -1), -1);
        promise = 19;
        due("no claim", x.withdraw(3), -1);
        due("no claim", x.withdraw(-1), -1);
        due("the first one", x.withdraw(0), 60);
        due("one less", x.count(3), 2);
        due("the second one is the first", x.claimed(0, 1), 3);
        due("the third one is the second", x.claimed(1, 0), 1);
        due("open again", x.period(0, 4), 60);
        due("room again", x.room(0, 2), 100);
        due("no such one now", x.withdraw(2), -1);
        ReliefDesk y = desk("member a 33 0;member b 0 0;owns a b 100 0;period a 0 9 -100;period b 0 9 100;");
        y.claim(0, 1, 5);
        due("paid downwards", y.claimed(0, 3), 1);
    }

    private static void claimLimits() {
        promise = 18;
        ReliefDesk x = desk(SQUARE);
        for (int k = 0; k < 30; k++) {
            due("claim", x.claim(0, 2, 1), k);
        }
        due("a 31st", x.claim(0, 2, 1), -2);
        due("a 31st beyond room", x.claim(0, 2, 1000), -2);
        due("NONE goes first", x.claim(0, 1, 1), -1);
        due("NONE goes first", x.claim(0, 2, 0), -1);
        due("no more by claimAll", x.claimAll(), 0);
        due("nothing to undo by it", x.count(8), 20);
        due("withdraw", x.withdraw(29), 1);
        due("room for one", x.claimAll(), 1);
        due("all that a has left", x.claimed(29, 2), 71);
        due("chance has no room", x.chance(1, 60, 0), 0);
    }

    private static void claimAll() {
        promise = 21;
        ReliefDesk x = desk("price 1;" + SQUARE);
        due("two links", x.claimAll(), 2);
        due("by losses", x.claimed(0, 0), 0);
        due("to d", x.claimed(0, 1), 3);
        due("by losses", x.claimed(1, 0), 1);
        due("to c", x.claimed(1, 1), 2);
        due("all of it", x.claimed(1, 2), 100);
        due("nothing is left", x.solved(0), 0);
        due("none come", x.claimAll(), 0);
        due("one to undo", x.count(8), 1);
        due("undone", x.undo(), 0);
        due("no claims", x.count(3), 0);
        due("relief again", x.solved(0), 200);
        due("without members", new ReliefDesk().claimAll(), 0);
    }

    private static void resultsAndOwns() {
        promise = 22;
        ReliefDesk x = desk(SQUARE);
        due("beyond", x.result(0, 100000) ? 1 : 0, 0);
        due("beyond", x.result(0, -100000) ? 1 : 0, 0);
        due("no period", x.result(4, 0) ? 1 : 0, 0);
        due("no period", x.result(-1, 0) ? 1 : 0, 0);
        due("otherwise", x.result(0, 99999) ? 1 : 0, 1);
        due("a profit now", x.period(0, 3), 99999);
        due("no link now", x.bound(0, 2), -1);
        due("a link now", x.bound(1, 0), 100);
        due("least", x.result(0, -99999) ? 1 : 0, 1);
        x.claim(0, 2, 1);
        due("a claim of the loss", x.result(0, 5) ? 1 : 0, 0);
        due("a claim of the profit", x.result(2, 5) ? 1 : 0, 0);
        due("no claim of it", x.result(3, 5) ? 1 : 0, 1);
        x.withdraw(0);
        due("no claim any more", x.result(2, 0) ? 1 : 0, 1);
        promise = 23;
        x = desk(SQUARE);
        due("no member", x.own(0, 4, 1, 0), -1);
        due("no member", x.own(-1, 0, 1, 0), -1);
        due("not greater", x.own(1, 0, 1, 0), -1);
        due("itself", x.own(1, 1, 1, 0), -1);
        due("no percent", x.own(0, 1, 101, 0), -1);
        due("no percent", x.own(0, 1, -1, 0), -1);
        due("no day", x.own(0, 1, 1, 1000), -1);
        due("no day", x.own(0, 1, 1, -1), -1);
        due("a fourth", x.own(0, 2, 0, 5), 4);
        due("half the days", x.bound(0, 2), 50);
        x.claim(0, 2, 50);
        due("claims would be more", x.own(0, 2, 0, 4), -3);
        due("nothing comes", x.count(2), 4);
        due("bound stays", x.bound(0, 2), 50);
        due("undo is as it was", x.count(8), 2);
        due("claims on another link are not touched", x.own(0, 3, 0, 4), 5);
        for (int k = 6; k <= 24; k++) {
            due("own", x.own(0, 2, 0, 5), k);
        }
        due("a 25th", x.own(0, 2, 0, 0), -2);
        due("NONE goes first", x.own(2, 0, 0, 0), -1);
    }

    private static void relief() {
        promise = 24;
        ReliefDesk x = desk("price 1;" + SQUARE);
        due("the cheapest", x.relief(0, 3), 100);
        due("what is left", x.relief(1, 2), 100);
        due("none on it", x.relief(0, 2), 0);
        due("no link", x.relief(2, 0), -1);
        due("no period", x.relief(0, 4), -1);
        promise = 25;
        due("all", x.solved(0), 200);
        due("prices", x.solved(1), 100 * 29 + 100 * 79);
        due("routes", x.solved(2), 2);
        due("links", x.solved(3), 2);
        due("no what", x.solved(4), -1);
        due("no what", x.solved(-1), -1);
        promise = 26;
        due("all used up", x.reached(), 0);
        x.result(3, 60);
        due("all losses' links lead on", x.reached(), 15);
        promise = 27;
        due("left of a loss", x.left(1), 40);
        due("left of a loss", x.left(0), 0);
        due("left of a profit", x.left(2), 0);
        due("no period", x.left(4), -1);
        due("no period", x.left(-1), -1);
        x.claim(0, 2, 10);
        due("less by the claim", x.solved(0), 150);
        promise = 39;
        due("from", x.route(0), 0);
        due("to", x.route(1), 3);
        due("no more", x.route(2), -2);
        due("below 0", x.route(-1), -1);
        due("no route", desk(FOUR).route(0), -2);
        promise = 45;
        due("dearest", x.dearest(), 16 * 1 + 2);
        due("none", desk(FOUR).dearest(), -2);
        due("the first of like ones", desk("price 0;" + SQUARE.replace("b 20 0", "b 10 0")).dearest(), 2);
        ReliefDesk y = desk("member a 0 0;member b 0 0;owns a b 100 0;period a 0 9 -100;period b 0 4 300;period b 5 9 -1;");
        promise = 26;
        due("a saturated link stops; a loss without a link", y.reached(), 1 | 4);
        due("left", y.left(0), 50);
        due("left of the profit", y.left(1), 250);
    }

    private static void routesInOrder() {
        promise = 24;
        /* The cheap LINK 0 -> 2 goes first; the last ROUTE must go back along it: 1 -> 2 -> 0 -> 3. */
        ReliefDesk x = desk("member a 1 0;member b 2 0;member c 0 0;member d 0 0;owns a c 100 0;owns b c 100 0;owns a d 100 0;"
            + "period a 0 9 -100;period b 0 9 -100;period c 0 9 100;period d 0 9 100;");
        due("b and d are not related", x.bound(1, 3), 0);
        due("all", x.solved(0), 200);
        due("routes", x.solved(2), 2);
        due("back again", x.relief(0, 2), 0);
        due("forth", x.relief(0, 3), 100);
        due("forth", x.relief(1, 2), 100);
        due("first route", x.route(1), 2);
        due("prices", x.solved(1), 300);
        /* Like in all: the lesser numbers first. */
        x = desk("member a 5 0;member b 5 0;member c 0 0;member d 0 0;owns a b 100 0;owns a c 100 0;owns a d 100 0;"
            + "period d 0 9 70;period c 0 9 100;period b 0 9 -100;period a 0 9 -50;");
        due("the first loss to the first profit", x.relief(2, 0), 70);
        due("then to the next", x.relief(2, 1), 30);
        due("then the next loss", x.relief(3, 1), 50);
        due("routes", x.solved(2), 3);
    }

    private static void payments() {
        promise = 28;
        ReliefDesk x = desk("price 1;" + SQUARE);
        x.claim(0, 2, 19);
        x.claim(1, 2, 9);
        x.claim(1, 2, 9);
        /* Left: a 81 to d, b 19 to d, 63 to c. */
        due("relief", x.relief(0, 3), 81);
        due("relief", x.relief(1, 3), 19);
        due("relief", x.relief(1, 2), 63);
        due("c for relief", x.pays(2, 0), 12);
        due("d for relief", x.pays(3, 0), 8 + 3);
        due("to a for relief", x.pays(0, 1), 8);
        due("to b for relief", x.pays(1, 1), 3 + 12);
        due("c by claims, each downwards", x.pays(2, 2), 1 + 1 + 1);
        due("to a by claims", x.pays(0, 3), 1);
        due("to b by claims", x.pays(1, 3), 2);
        due("d by claims", x.pays(3, 2), 0);
        due("no member", x.pays(4, 0), -1);
        due("no member", x.pays(-1, 0), -1);
        due("no what", x.pays(0, 4), -1);
        due("no what", x.pays(0, -1), -1);
        promise = 29;
        int[] balances = {9, 17, -15, -11};
        for (int m = 0; m < 4; m++) {
            due("balance(" + m + ")", x.balance(m), balances[m]);
        }
        due("no member", x.balance(4), -9999999);
        due("no member", x.balance(-1), -9999999);
        promise = 30;
        due("c to a", x.owes(2, 0), 1);
        due("c to b", x.owes(2, 1), 14);
        due("d to a", x.owes(3, 0), 8);
        due("b to d", x.owes(1, 3), -3);
        due("nothing between", x.owes(0, 1), 0);
        due("not unlike", x.owes(1, 1), -9999999);
        due("no member", x.owes(0, 4), -9999999);
        due("no member", x.owes(-1, 0), -9999999);
        promise = 31;
        due("payments", x.settles(), 3);
        promise = 32;
        int[][] due = {{2, 1, 15}, {3, 0, 9}, {3, 1, 2}};
        for (int k = 0; k < 3; k++) {
            for (int what = 0; what < 3; what++) {
                due("settling(" + k + ", " + what + ")", x.settling(k, what), due[k][what]);
            }
        }
        due("not so many", x.settling(3, 0), -2);
        due("below 0", x.settling(-1, 0), -1);
        due("no what", x.settling(0, 3), -1);
        due("NONE goes first", x.settling(3, 3), -1);
        due("no what", x.settling(0, -1), -1);
        ReliefDesk like = desk(SQUARE);
        like.result(1, 0);
        like.result(2, 50);
        like.result(3, 50);
        due("of like ones the first pays first", like.settling(0, 0), 2);
        due("then the next", like.settling(1, 0), 3);
        due("as much", like.settling(1, 2), 5);
        like = desk("member a 10 0;member b 10 0;member c 0 0;owns a b 100 0;owns a c 100 0;"
            + "period a 0 9 -50;period b 0 9 -50;period c 0 9 100;");
        due("of like ones the first is paid first", like.settling(0, 1), 0);
        due("then the next", like.settling(1, 1), 1);
        promise = 33;
        x = desk("member a 10 99;member b 20 33;owns a b 100 0;period a 0 9 -100;period b 0 9 105;period b 10 19 8;period a 10 10 -3;"
            + "period b 20 20 2;");
        due("each downwards", x.tax(1), 1 + 2 + 0);
        due("no profits", x.tax(0), 0);
        x.result(3, 0);
        due("more is left", x.tax(1), 1 + 2 + 0);
        x.result(1, 109);
        x.claim(0, 1, 7);
        due("open less relief", x.tax(1), 2 + 2 + 0);
        due("no member", x.tax(2), -1);
        due("no member", x.tax(-1), -1);
    }

    private static void otherwise() {
        promise = 34;
        ReliefDesk x = desk(SQUARE);
        x.claim(0, 2, 30);
        x.claim(1, 3, 20);
        due("now", x.solved(0), 150);
        due("without a, its claim not there either", x.without(0), 80);
        due("without b", x.without(1), 70);
        due("without c", x.without(2), 80);
        due("no member", x.without(4), -1);
        due("no member", x.without(-1), -1);
        due("nothing has changed", x.solved(0), 150);
        promise = 35;
        ReliefDesk y = desk("member a 0 0;member b 0 0;owns a b 100 0;period a 0 9 -100;period b 0 4 60;");
        due("bound", y.bound(0, 1), 50);
        due("5 more", y.worth(0, 1, 5), 5);
        due("10 more", y.worth(0, 1, 10), 10);
        due("the profit stops it", y.worth(0, 1, 99999), 10);
        due("no m", y.worth(0, 1, 0), -1);
        due("no m", y.worth(0, 1, 100000), -1);
        due("no link", y.worth(1, 0, 1), -1);
        due("no period", y.worth(0, 2, 1), -1);
        due("room as it was", y.room(0, 1), 50);
        promise = 36;
        ReliefDesk z = desk("member a 0 0;member b 0 0;owns a b 100 0;period a 0 9 -100;period b 0 4 60;");
        due("5 less", z.lack(0, 1, 5), 5);
        due("all less", z.lack(0, 1, 99999), 50);
        due("no m", z.lack(0, 1, 0), -1);
        due("no m", z.lack(0, 1, 100000), -1);
        due("no link", z.lack(1, 0, 1), -1);
        due("no period", z.lack(2, 1, 1), -1);
        due("another way", x.lack(0, 3, 70), 0);
        z.claim(0, 1, 20);
        due("less than room", z.lack(0, 1, 20), 20);
        due("room is 30", z.lack(0, 1, 40), 30);
        due("as it was", z.solved(0), 30);
    }

    private static void carries() {
        promise = 15;
        ReliefDesk x = desk(LONE);
        due("the lesser of both", x.bound(0, 1), 60);
        due("the lesser of both", x.bound(2, 3), 50);
        due("later", x.bound(0, 3), 70);
        due("not to an earlier one", x.bound(2, 1), -1);
        promise = 17;
        due("for nothing", x.price(0, 3), 0);
        due("for nothing with price 1", desk("price 1;" + LONE).price(0, 3), 0);
        promise = 14;
        due("of one member", x.shared(0, 1), -1);
        promise = 25;
        due("all", x.solved(0), 130);
        promise = 37;
        due("byCarry(1)", x.byCarry(1), 130);
        due("byCarry(0)", x.byCarry(0), 0);
        due("byCarry(2)", x.byCarry(2), -1);
        due("byCarry(-1)", x.byCarry(-1), -1);
        promise = 18;
        due("a claim by it", x.claim(0, 1, 60), 0);
        due("no more", x.claim(0, 1, 1), -3);
        promise = 37;
        due("no claims", x.byCarry(1), 130);
        promise = 20;
        due("paid", x.claimed(0, 3), 0);
        promise = 38;
        due("relief on carries", x.carried(0), 70);
        due("on others", x.carried(1), 0);
        due("claims on carries", x.carried(2), 60);
        due("on others", x.carried(3), 0);
        due("no what", x.carried(4), -1);
        due("no what", x.carried(-1), -1);
        x = desk("carry 1;member a 10 0;member b 0 0;owns a b 100 0;period a 0 9 -100;period a 10 19 30;period b 0 9 50;");
        x.claim(0, 2, 5);
        x.claim(0, 1, 3);
        due("relief on carries", x.carried(0), 27);
        due("on others", x.carried(1), 45);
        due("claims on carries", x.carried(2), 3);
        due("on others", x.carried(3), 5);
        promise = 28;
        due("a carry is not paid", x.pays(0, 0), 0);
        due("to a", x.pays(0, 1), 4);
        promise = 29;
        due("balance", x.balance(0), 4);
        promise = 37;
        due("others alone", x.byCarry(0), 50);
        due("both", x.byCarry(1), 80);
    }

    private static void gates() {
        promise = 41;
        ReliefDesk x = desk("member a 0 0;member b 0 0;member c 0 0;owns a b 60 0;owns a c 80 0;"
            + "period a 0 9 -100;period b 0 9 30;period c 0 9 50;");
        due("as it is", x.solved(0), 50);
        x.claim(0, 2, 50);
        due("no claims", x.byGate(75), 50);
        due("both", x.byGate(1), 80);
        due("at 60", x.byGate(60), 80);
        due("at 61", x.byGate(61), 50);
        due("at 81", x.byGate(81), 0);
        due("at 100", x.byGate(100), 0);
        due("no gate", x.byGate(0), -1);
        due("no gate", x.byGate(101), -1);
        due("gate as it was", x.count(4), 75);
        due("links as they were", x.bound(0, 1), 0);
        ReliefDesk direct = desk("gate 50;member a 0 0;member b 0 0;owns a b 60 0;period a 0 9 -100;period b 0 9 30;");
        due("asked ahead of all else", direct.byGate(60), 30);
        promise = 37;
        direct = desk("gate 50;member a 0 0;member b 0 0;owns a b 60 0;period a 0 9 -100;period b 0 9 30;");
        due("asked ahead of all else", direct.byCarry(0), 30);
        promise = 44;
        direct = desk("gate 50;member a 0 0;member b 0 0;owns a b 60 0;period a 0 9 -100;period b 0 9 30;");
        due("asked ahead of all else", direct.ifFirst(1, 0), 30);
        promise = 42;
        due("nothing wanted", x.gateFor(0), 100);
        due("1", x.gateFor(1), 80);
        due("50", x.gateFor(50), 80);
        due("51", x.gateFor(51), 60);
        due("80", x.gateFor(80), 60);
        due("81", x.gateFor(81), -2);
        due("most", x.gateFor(9999999), -2);
        due("no n", x.gateFor(10000000), -1);
        due("no n", x.gateFor(-1), -1);
        ReliefDesk low = desk("member a 0 0;member b 0 0;owns a b 1 0;period a 0 9 -100;period b 0 9 30;");
        due("the lowest gate", low.gateFor(30), 1);
    }

    private static void firstDays() {
        promise = 44;
        ReliefDesk x = desk("member a 0 0;member b 0 0;owns a b 100 0;period a 0 9 -100;period b 20 29 100;period a 15 15 0;period b 30 30 -1;");
        due("no days shared", x.solved(0), 0);
        due("from 5 on: 5 days of 25", x.ifFirst(1, 5), 20);
        due("from 0 on: 10 of 30", x.ifFirst(1, 0), 33);
        due("as it is", x.ifFirst(1, 20), 0);
        due("its last day", x.ifFirst(1, 29), 0);
        due("behind its last day", x.ifFirst(1, 30), -1);
        due("below 0", x.ifFirst(1, -1), -1);
        due("beyond", x.ifFirst(1, 1000), -1);
        due("no period", x.ifFirst(4, 0), -1);
        due("no period", x.ifFirst(-1, 0), -1);
        due("a day in common", x.ifFirst(2, 9), -2);
        due("none in common", x.ifFirst(2, 10), 0);
        due("a day in common with the one ahead", x.ifFirst(3, 29), -2);
        due("first day stays", x.period(1, 1), 20);
        due("shared stays", x.shared(0, 1), 0);
        ReliefDesk y = desk(SQUARE);
        y.claim(0, 2, 100);
        due("no claims", y.ifFirst(2, 0), 200);
        due("a day of one: all the profit, a tenth of each loss", y.ifFirst(2, 9), 120);
    }

    private static void chance() {
        promise = 46;
        ReliefDesk x = desk("seed 4711;carry 1;" + SQUARE.replace("100;", "9000;"));
        for (int n = 1; n <= 60; n++) {
            long[] due = chances(4711, n, 4, 9000);
            due("how many of " + n, x.chance(-1, n, 0), due[0]);
            due("how much of " + n, x.chance(4711, n, 1), due[1]);
            due("all relief then of " + n, x.chance(-1, n, 2), 18000 - due[1]);
        }
        due("the greatest seed", x.chance(2147483647, 60, 1), chances(2147483647, 60, 4, 9000)[1]);
        due("nothing has changed", x.count(3), 0);
        due("nothing to undo", x.count(8), 0);
        due("no seed", x.chance(-2, 1, 0), -1);
        due("no n", x.chance(0, 0, 0), -1);
        due("no n", x.chance(0, 61, 0), -1);
        due("no what", x.chance(0, 1, 3), -1);
        due("no what", x.chance(0, 1, -1), -1);
        due("no period", desk(FOUR).chance(0, 1, 0), -1);
        ReliefDesk one = desk("member a 0 0;period a 0 0 -5;");
        due("one period", one.chance(0, 60, 0), 0);
        x.claim(0, 2, 9000);
        x.claim(1, 3, 9000);
        due("claims that are there take part", x.chance(-1, 60, 0), 0);
    }

    /** How many and how much of the DRAWS of a square's four PERIODS can be claimed. */
    private static long[] chances(long seed, int n, int periods, int each) {
        long number = seed;
        long[] answer = new long[2];
        long[] left = {each, each, each, each};
        for (int k = 0; k < n; k++) {
            number = number * 1103515245L + 12345L & 0x7FFFFFFFL;
            int i = (int) (number / 65536 % periods);
            number = number * 1103515245L + 12345L & 0x7FFFFFFFL;
            int j = (int) (number / 65536 % periods);
            number = number * 1103515245L + 12345L & 0x7FFFFFFFL;
            long amount = number / 65536 % 1000 + 1;
            if (i < 2 && j >= 2 && amount <= left[i] && amount <= left[j] && answer[0] < 30) {
                left[i] -= amount;
                left[j] -= amount;
                answer[0]++;
                answer[1] += amount;
            }
        }
        return answer;
    }

    private static void undone() {
        promise = 47;
        ReliefDesk x = desk(SQUARE);
        due("nothing", x.undo(), -1);
        x.claim(0, 2, 10);
        x.claim(0, 3, 20);
        x.claim(1, 3, 30);
        x.withdraw(1);
        x.result(2, 100);
        x.own(0, 1, 5, 3);
        due("five, as a result of a claimed one is refused", x.count(8), 5);
        due("own undone", x.undo(), 4);
        due("owns", x.count(2), 3);
        due("percent", x.percent(0, 1, 5), 80);
        due("withdraw undone", x.undo(), 3);
        due("it has its number", x.claimed(1, 2), 20);
        due("the one behind it, too", x.claimed(2, 2), 30);
        due("a claim undone", x.undo(), 2);
        due("two claims", x.count(3), 2);
        x.undo();
        due("all undone", x.undo(), 0);
        due("no claims", x.count(3), 0);
        due("none could", x.undo(), -1);
        x.result(0, 50);
        due("otherwise", x.solved(0), 100);
        due("undone", x.undo(), 0);
        due("result", x.period(0, 3), -100);
        due("relief", x.solved(0), 200);
        for (int k = 1; k <= 25; k++) {
            x.result(0, -k);
        }
        due("20 at most", x.count(8), 20);
        for (int k = 19; k >= 0; k--) {
            due("undo", x.undo(), k);
            due("the result ahead of it", x.period(0, 3), -5 - k);
        }
        due("the earlier ones stay", x.period(0, 3), -5);
        due("none could", x.undo(), -1);
        ReliefDesk y = desk("member a 0 0;member b 0 0;");
        due("the first own", y.own(0, 1, 80, 0), 1);
        due("undone", y.undo(), 0);
        due("no owns", y.count(2), 0);
        due("no percent", y.percent(0, 1, 999), 0);
        x.claimAll();
        x.result(2, 1);
        due("claimAll undone as one", x.undo(), 0);
        due("its claims are gone", x.count(3), 0);
    }

    private static void images() {
        promise = 48;
        ReliefDesk x = desk(SQUARE);
        due("none to go back to", x.back(), -1);
        x.claim(0, 2, 10);
        x.result(3, 77);
        x.own(0, 1, 60, 3);
        due("keep", x.keep(), 1);
        due("undo stays", x.count(8), 3);
        x.claim(0, 2, 20);
        x.withdraw(0);
        x.result(3, 78);
        x.own(0, 1, 61, 3);
        promise = 49;
        due("back", x.back(), 1);
        due("claims", x.claimed(0, 2), 10);
        due("results", x.period(3, 3), 77);
        due("owns", x.count(2), 4);
        due("percent", x.percent(0, 1, 3), 60);
        due("nothing to undo", x.undo(), -1);
        x.withdraw(0);
        due("it stays", x.back(), 1);
        due("claims again", x.count(3), 1);
        x.own(0, 1, 10, 3);
        x.keep();
        x.undo();
        x.own(2, 3, 20, 4);
        x.back();
        due("parts as in the image", x.percent(0, 1, 3), 10);
        due("no other parts", x.percent(2, 3, 4), 0);
        x = desk(SQUARE);
        x.claim(0, 2, 10);
        x.result(3, 77);
        x.own(0, 1, 60, 3);
        x.keep();
        promise = 48;
        x.claim(1, 2, 5);
        due("in place of the one ahead", x.keep(), 2);
        x.undo();
        due("back to the later one", x.back(), 2);
        due("relief: a all it has, b three days of ten", x.solved(0), 90 + 25 + 23);
    }

    private static void counts() {
        promise = 50;
        ReliefDesk x = desk("gate 60;price 2;carry 1;" + SQUARE + "period a 10 10 0;period b 10 10 5;");
        x.claim(0, 2, 1);
        x.own(0, 1, 99, 1);
        x.feed(0, 0, 0, 0, 0);
        int[] due = {4, 6, 4, 1, 60, 2, 2, 3, 2, 20, 1};
        for (int what = 0; what < due.length; what++) {
            due("count(" + what + ")", x.count(what), due[what]);
        }
        due("no what", x.count(11), -1);
        due("no what", x.count(-1), -1);
    }
}
