import java.math.BigInteger;

/** The sentences of the document's Terms, one by one, at their edges. */
public final class TermsTest {
    private static final int TERMS = Bench.TERMS;
    private static final int NONE = ReliefDesk.NONE;
    /* 26 bytes: every place behind it is counted from there. */
    private static final String TWO = "member a 0 0;member b 0 0;";
    private static final String[] LANGUAGE = {"member", "owns", "period", "gate", "price", "carry", "seed"};
    /* Each LINE as its tokens, with the kind of each: L word of the LINE, W, N, M, and S the ';'. */
    private static final String[][] LINES = {
        {"LWNNS", "member", "z", "1", "2", ";"},
        {"LWWNNS", "owns", "a", "b", "3", "4", ";"},
        {"LWNNMS", "period", "a", "5", "6", "-7", ";"},
        {"LNS", "gate", "8", ";"},
        {"LNS", "price", "1", ";"},
        {"LNS", "carry", "1", ";"},
        {"LNS", "seed", "9", ";"}
    };

    private static final Bench BENCH = new Bench();

    public static void main(String[] args) {
        texts();
        words();
        numbersAndBlanks();
        memberLines();
        ownsLines();
        periodLines();
        settings();
        faultOrder();
        faultOne();
        faultTwo();
        faultThreeAndFour();
        percents();
        shares();
        controls();
        relatives();
        lossesAndShared();
        bounds();
        prices();
        carries();
        claims();
        routes();
        routeOrder();
        routeAmounts();
        reached();
        paid();
        settling();
        tax();
        draws();
        byChance();
        undone();
        images();
        answersInOrder();
        BENCH.end(TERMS, TERMS);
    }

    private static void says(String sentence) {
        BENCH.says(TERMS, sentence);
    }

    private static void due(String what, long got, long want) {
        BENCH.due(what, got, want);
    }

    private static void fault(String text, int fault, int place) {
        BENCH.fault(text, fault, place);
    }

    private static void fine(String text) {
        BENCH.fine(text);
    }

    private static ReliefDesk desk(String text) {
        return BENCH.desk(text);
    }

    // ---- 1: the TEXT ----

    private static void texts() {
        says("A TEXT: { LINE ';' }.");
        due("no LINE", Bench.tell(new ReliefDesk(), ""), 0);
        due("no LINE but blanks", Bench.tell(new ReliefDesk(), " \n "), 0);
        due("one", Bench.tell(new ReliefDesk(), "gate 7;"), 1);
        due("two", Bench.tell(new ReliefDesk(), "gate 7;price 1;"), 2);
        fault("gate 7", 1, 6);
        fault("gate 7;price 1", 1, 14);
        fault("gate 7 price 1;", 1, 7);
        fault(";", 1, 0);
        fault("gate 7;;", 1, 7);
        fault("gate 7; ;", 1, 8);

        says("LINE: member W N N | owns W W N N | period W N N M | gate N | price N | carry N | seed N.");
        for (String[] line : LINES) {
            fine(TWO + joined(line, line.length, 0, ""));
            for (int tokens = 1; tokens < line.length - 1; tokens++) {
                String text = TWO + joined(line, tokens + 1, 0, "").trim();
                fault(text, 1, text.length());
            }
            for (int k = 1; k < line.length; k++) {
                for (String other : othersThan(line[0].charAt(k - 1))) {
                    int place = TWO.length() + joined(line, k, 0, "").length();
                    fault(TWO + joined(line, line.length, k, other), 1, place);
                }
            }
        }
        fault("gate 7 8;", 1, 7);
        fault("member z 1 2 3;", 1, 13);
        fault(TWO + "owns a b 1 2 3;", 1, 39);
        fault(TWO + "period a 1 2 3 4;", 1, 41);
    }

    /** The tokens of a LINE ahead of end, a blank behind each; the one with the number changed is another one. */
    private static String joined(String[] line, int end, int changed, String other) {
        StringBuilder text = new StringBuilder();
        for (int k = 1; k < end; k++) {
            text.append(k == changed ? other : line[k]).append(' ');
        }
        return text.toString();
    }

    private static String[] othersThan(char kind) {
        switch (kind) {
            case 'L': return new String[] {"x", "5", "-5", ";", "?", "abcdefg"};
            case 'W': return new String[] {"5", "-5", ";", "?", "gate", "abcdefg"};
            case 'N': return new String[] {"x", "-5", ";", "?", "gate", "-", "abcdefg"};
            case 'M': return new String[] {"x", ";", "?", "gate", "-", "abcdefg"};
            default: return new String[] {"x", "5", "-5", "?", "gate", "-", "abcdefg"};
        }
    }

    private static void words() {
        says("Words: small letters in a row;");
        fine("member a 0 0;member z 0 0;member az 0 0;member za 0 0;");
        fault("member `a 0 0;", 1, 7);
        fault("member {a 0 0;", 1, 7);
        fault("member a` 0 0;", 1, 8);
        fault("member a{ 0 0;", 1, 8);
        fault("member A 0 0;", 1, 7);
        fault("member aB 0 0;", 1, 8);
        fault("Member a 0 0;", 1, 0);
        fault("membeR a 0 0;", 1, 0);
        fault("mem ber a 0 0;", 1, 0);
        fault("member a b 0 0;", 1, 9);
        fault("member " + (char) 225 + " 0 0;", 1, 7);
        fine("gate5;member a0 0;");
        fault("gatea 5;", 1, 0);

        says("W: one of 1 .. 6 letters, none of those of the language;");
        fine("member a 0 0;member abcdef 0 0;owns a abcdef 0 0;period abcdef 0 0 0;period a 0 0 0;");
        fault("member abcdefg 0 0;", 1, 7);
        fault(TWO + "owns abcdefg b 0 0;", 1, 31);
        fault(TWO + "owns a abcdefg 0 0;", 1, 33);
        fault(TWO + "period abcdefg 0 0 0;", 1, 33);
        fault("member abcdefghijklmnopqrstuvwxyzabcdefghijklmnopqrstuvwxyz 0 0;", 1, 7);
        for (String word : LANGUAGE) {
            fault("member " + word + " 0 0;", 1, 7);
            fault(TWO + "owns " + word + " b 0 0;", 1, 31);
            fault(TWO + "owns a " + word + " 0 0;", 1, 33);
            fault(TWO + "period " + word + " 0 0 0;", 1, 33);
            String less = word.substring(0, word.length() - 1);
            fine("member " + less + " 0 0;member x" + less + " 0 0;");
        }
        fine("member owned 0 0;member gates 0 0;member prices 0 0;member seeds 0 0;");
    }

    private static void numbersAndBlanks() {
        says("N: digits;");
        fine("gate 19;member z 0 9;");
        fault("gate /1;", 1, 5);
        fault("gate :1;", 1, 5);
        fault("gate 1/;", 1, 6);
        fault("gate 1:;", 1, 6);
        fault("gate 1.;", 1, 6);
        fault("gate +1;", 1, 5);
        fault("gate -1;", 1, 5);
        fault("gate 1 0;", 1, 7);
        fine("gate 0000000000000000000000000000000000000000000000000100;");
        fault("gate 0000000000000000000000000000000000000000000000000101;", 2, 5);

        says("M: digits, '-' right ahead of them or none.");
        String from = TWO + "period a 0 9 ";
        String[] fineOnes = {"5", "-5", "0", "-0", "-007", "00099999", "-00099999"};
        int[] results = {5, -5, 0, 0, -7, 99999, -99999};
        for (int k = 0; k < fineOnes.length; k++) {
            due("RESULT " + fineOnes[k], desk(from + fineOnes[k] + ";").period(0, 3), results[k]);
        }
        fault(from + "- 5;", 1, 39);
        fault(from + "-\n5;", 1, 39);
        fault(from + "--5;", 1, 39);
        fault(from + "5-;", 1, 40);
        fault(from + "5-5;", 1, 40);
        fault(from + "+5;", 1, 39);
        fault(from + "-;", 1, 39);
        fault(from + "-a;", 1, 39);
        fault(from + "-", 1, 39);
        due("right behind another number", desk(TWO + "period a 0 9-5;").period(0, 3), -5);

        says("Blanks 10, 32.");
        fine("\n \ngate\n7\n;\n");
        fine("gate 7 ;  \n");
        fine("gate7;price1;carry1;seed1;member a1 2;period a1 2-3;");
        for (int sign : new int[] {0, 8, 9, 11, 12, 13, 31, 33, 127, 128, 138, 160, 255}) {
            fault("gate" + (char) sign + "7;", 1, 4);
            fault((char) sign + "gate 7;", 1, 0);
            fault("gate 7" + (char) sign + ";", 1, 6);
            fault("gate 7;" + (char) sign, 1, 7);
        }
    }

    private static String members(int n) {
        StringBuilder text = new StringBuilder();
        for (int m = 0; m < n; m++) {
            text.append("member ").append((char) ('a' + m)).append(" 0 0;");
        }
        return text.toString();
    }

    private static void memberLines() {
        says("member, at most 8: name,");
        due("eight", Bench.tell(new ReliefDesk(), members(8)), 8);
        due("all of them", desk(members(8)).count(0), 8);
        fault(members(9), 2, 104);
        says("ASKS 0 .. 99, RATE 0 .. 99;");
        ReliefDesk x = desk("member a 0 99;member b 99 0;");
        BENCH.dueEach(x, "member", Bench.args(0), 0, 99);
        BENCH.dueEach(x, "member", Bench.args(1), 99, 0);
        fault("member a 100 0;", 2, 9);
        fault("member a 0 100;", 2, 11);
        fault("member a -1 0;", 1, 9);
        fault("member a 0 -1;", 1, 11);
        fault("member a 4294967296 0;", 2, 9);
        fault("member a 0 18446744073709551616;", 2, 11);
        says("numbered from 0 on as they come.");
        x = desk("member z 1 0;gate 5;member y 2 0;owns z y 1 1;member a 3 0;");
        for (int m = 0; m < 3; m++) {
            due("ASKS of " + m, x.member(m, 0), m + 1);
        }
    }

    private static String owns(int n) {
        return "owns a b 7 0;".repeat(n);
    }

    private static void ownsLines() {
        says("owns, at most 16: a MEMBER, another one whose number is greater,");
        due("sixteen", desk(TWO + owns(16)).count(2), 16);
        fault(TWO + owns(17), 2, 26 + 16 * 13);
        String three = "member c 0 0;member a 0 0;member b 0 0;";
        fine(three + "owns c a 0 0;owns a b 0 0;owns c b 0 0;");
        fault(three + "owns a c 0 0;", 2, 46);
        fault(three + "owns b b 0 0;", 2, 46);
        fault(three + "owns b a 0 0;", 2, 46);
        says("PERCENT 0 .. 100, the DAY 0 .. 999 from which on it is so.");
        ReliefDesk x = desk(TWO + "owns a b 100 0;owns a b 0 999;");
        due("from its DAY on", x.percent(0, 1, 0), 100);
        due("till the next one", x.percent(0, 1, 998), 100);
        due("the last DAY", x.percent(0, 1, 999), 0);
        fault(TWO + "owns a b 101 0;", 2, 35);
        fault(TWO + "owns a b -1 0;", 1, 35);
        fault(TWO + "owns a b 0 1000;", 2, 37);
        fault(TWO + "owns a b 0 -1;", 1, 37);
        fault(TWO + "owns a b 4294967297 0;", 2, 35);
        fault(TWO + "owns a b 0 4294967297;", 2, 37);
    }

    private static String periods(int n) {
        StringBuilder text = new StringBuilder();
        for (int k = 0; k < n; k++) {
            text.append("period a ").append(10 + k).append(" ").append(10 + k).append(" 7;");
        }
        return text.toString();
    }

    private static void periodLines() {
        says("period, at most 12: of a MEMBER the first DAY 0 .. 999,");
        due("twelve", desk(TWO + periods(12)).count(1), 12);
        fault(TWO + periods(13), 2, 26 + 12 * 17);
        ReliefDesk x = desk(TWO + "period a 0 0 1;period a 999 999 1;period b 0 999 1;");
        int[][] days = {{0, 0}, {999, 999}, {0, 999}};
        for (int p = 0; p < 3; p++) {
            due("first DAY", x.period(p, 1), days[p][0]);
            due("last DAY", x.period(p, 2), days[p][1]);
        }
        fault(TWO + "period a 1000 1000 1;", 2, 35);
        fault(TWO + "period a -1 5 1;", 1, 35);
        fault(TWO + "period a 4294967296 5 1;", 2, 35);
        says("the last one, no less, 0 .. 999,");
        fine(TWO + "period a 5 5 1;");
        fault(TWO + "period a 5 4 1;", 2, 37);
        fault(TWO + "period a 5 1000 1;", 2, 37);
        fault(TWO + "period a 0 -1 1;", 1, 37);
        fault(TWO + "period a 5 4294967301 1;", 2, 37);
        says("RESULT -99999 .. 99999; numbered likewise;");
        x = desk(TWO + "period b 0 9 -99999;seed 1;period a 0 9 99999;period b 10 10 0;");
        int[] results = {-99999, 99999, 0};
        for (int p = 0; p < 3; p++) {
            due("RESULT of " + p, x.period(p, 3), results[p]);
        }
        fault(TWO + "period a 0 9 100000;", 2, 39);
        fault(TWO + "period a 0 9 -100000;", 2, 39);
        fault(TWO + "period a 0 9 4294967295;", 2, 39);
        fault(TWO + "period a 0 9 -4294967297;", 2, 39);
        fault(TWO + "period a 0 9 -18446744073709551617;", 2, 39);
        says("PERIODS of one MEMBER have no DAY in common.");
        String ten = TWO + "period a 10 19 1;period ";
        fine(ten + "a 9 9 1;period a 20 20 1;");
        fine(ten + "b 10 19 1;");
        for (String in : new String[] {"10 10", "19 19", "12 15", "10 19", "0 10", "19 30", "0 999"}) {
            fault(ten + "a " + in + " 1;", 3, ten.length() + in.indexOf(' ') + 3);
        }
    }

    private static void settings() {
        says("gate: 1 .. 100 (75).");
        due("without", desk("price 1;").count(4), 75);
        due("least", desk("gate 1;").count(4), 1);
        due("most", desk("gate 100;").count(4), 100);
        fault("gate 0;", 2, 5);
        fault("gate 101;", 2, 5);
        fault("gate 4294967371;", 2, 5);
        says("price: 0 .. 2 (0).");
        due("without", desk("gate 1;").count(5), 0);
        due("least", desk("price 0;").count(5), 0);
        due("most", desk("price 2;").count(5), 2);
        fault("price 3;", 2, 6);
        fault("price -1;", 1, 6);
        fault("price 4294967297;", 2, 6);
        says("carry: 0, 1 (0).");
        due("without", desk("gate 1;").count(10), 0);
        due("0", desk("carry 0;").count(10), 0);
        due("1", desk("carry 1;").count(10), 1);
        fault("carry 2;", 2, 6);
        fault("carry -1;", 1, 6);
        fault("carry 4294967297;", 2, 6);
        says("seed: 0 .. 99999 (0).");
        String wide = Bench.SQUARE.replace("100;", "99999;");
        for (int n = 1; n <= 60; n += 3) {
            due("without", desk(wide).chance(-1, n, 1), sumOf(0, n));
            due("least", desk("seed 0;" + wide).chance(-1, n, 1), sumOf(0, n));
            due("most", desk("seed 99999;" + wide).chance(-1, n, 1), sumOf(99999, n));
        }
        fault("seed 100000;", 2, 5);
        fault("seed -1;", 1, 5);
        fault("seed 4294967296;", 2, 5);
        ReliefDesk x = desk("gate 9;price 2;carry 1;seed 5;" + wide);
        Bench.tell(x, wide);
        due("a new TEXT without gate", x.count(4), 75);
        due("without price", x.count(5), 0);
        due("without carry", x.count(10), 0);
        due("without seed", x.chance(-1, 60, 1), sumOf(0, 60));
    }

    private static void faultOrder() {
        says("FAULTS, the first along the text (of one place the least), with its place:");
        fault("gate 0;price 3;", 2, 5);
        fault("gate 7;price 3;carry 2;", 2, 13);
        fault("member a 100 0", 2, 9);
        fault("owns a b 101 0;", 4, 5);
        fault("gate 101", 2, 5);
        fault(TWO + "owns b a 101 1000;", 2, 33);
        fault(TWO + "period a 1000 0 100000;", 2, 35);
        fault(TWO + "period a 0 9 1;period a 9 9 100000", 3, 52);
        fault("\n\n  gate\n 0;", 2, 10);
        /* Both told already (a DAY in common) and too much (below the first DAY), at the last DAY. */
        fault(TWO + "period a 0 9 1;period a 12 3 1;", 2, 53);
        /* Both too much and one that cannot stand there. */
        fault("gate -700;", 1, 5);
    }

    private static void faultOne() {
        says("1 a TOKEN that is none (a word of more than 6 letters that isn't of the language, "
            + "'-' without a digit behind it, too)");
        for (String none : new String[] {"?", "A", "_", ",", ":", "\t", "\u00ff", "abcdefg", "members", "-", "-;", "- 1", "-a"}) {
            fault(none, 1, 0);
            fault("gate 7;" + none, 1, 7);
            fault("gate " + none, 1, 5);
        }
        says("or can't stand there (the length, if more must come; a '-' where N must be).");
        fault("gate", 1, 4);
        fault("gate ", 1, 5);
        fault("gate   \n", 1, 8);
        fault("gate 7", 1, 6);
        fault("gate 7  ", 1, 8);
        fault("member", 1, 6);
        fault("gate -7;", 1, 5);
        fault("gate -0;", 1, 5);
        fault("member a -1 1;", 1, 9);
        fault(TWO + "owns a b 1 -1;", 1, 37);
        fault(TWO + "period a 0 -9 1;", 1, 37);
        /* What the n of text() leaves off is not there. */
        ReliefDesk x = new ReliefDesk();
        Bench.feedAll(x, "gate 75;");
        due("the first six bytes", x.text(6), NONE);
        due("fault", x.fault(0), 1);
        due("at the length", x.fault(1), 6);
    }

    private static void faultTwo() {
        says("2 too much (at it): a number beyond what is said,");
        fault("gate 999;", 2, 5);
        fault("gate   101;", 2, 7);
        fault("gate\n0;", 2, 5);
        says("a second MEMBER whose number isn't greater (at its W),");
        fault(TWO + "owns b  a 0 0;", 2, 34);
        fault(TWO + "owns a a 0 0;", 2, 33);
        says("a ninth member, a 17th owns, a 13th period (at the word of the LINE).");
        fault(members(8) + "member i 0 0;", 2, 104);
        fault(members(8) + "  member", 2, 106);
        fault(members(8) + "member a 100 100;", 2, 104);
        fault(TWO + owns(16) + "owns a b 0 0;", 2, 234);
        fault(TWO + owns(16) + "owns", 2, 234);
        fault(TWO + owns(16) + "\nowns x", 2, 235);
        fault(TWO + periods(12) + "period b 0 0 1;", 2, 230);
        fault(TWO + periods(12) + "period", 2, 230);
        fault(TWO + periods(12) + " period x", 2, 231);
        fine(members(8) + owns(16) + periods(12) + "gate 1;price 1;carry 1;seed 1;");
    }

    private static void faultThreeAndFour() {
        says("3 told already: a name (at W), gate, price, carry, seed (at the word), a DAY in common (at the last DAY).");
        fault("member a 0 0;member a 0 0;", 3, 20);
        fault("member abcdef 0 0;member  abcdef 1 1;", 3, 26);
        fine("member a 0 0;member aa 0 0;member abcdef 0 0;member abcde 0 0;");
        for (String word : new String[] {"gate", "price", "carry", "seed"}) {
            fault(word + " 1;" + word + " 1;", 3, word.length() + 3);
            fault(word + " 1;  " + word, 3, word.length() + 5);
            fault(word + " 1;member a 0 0;" + word + " 101000;", 3, word.length() + 16);
        }
        fine("gate 1;price 1;carry 1;seed 1;");
        fault(TWO + "period a 0 9 1;period a 9  10 1;", 3, 53);
        ReliefDesk x = desk("gate 5;member a 0 0;");
        due("in a new TEXT all can be told again", Bench.tell(x, "gate 5;member a 0 0;"), 2);

        says("4 a MEMBER that isn't told ahead (at W).");
        fault("owns a b 0 0;", 4, 5);
        fault("member a 0 0;owns a b 0 0;member b 0 0;", 4, 20);
        fault("member b 0 0;owns  a b 0 0;member a 0 0;", 4, 19);
        fault("period a 0 0 1;member a 0 0;", 4, 7);
        fault("member ab 0 0;period a 0 0 1;", 4, 21);
        fault("member a 0 0;period ab 0 0 1;", 4, 20);
        x = desk("member a 0 0;");
        due("told in the TEXT ahead", Bench.tell(x, "period a 0 0 1;"), NONE);
        due("fault", x.fault(0), 4);
        due("place", x.fault(1), 7);
    }

    // ---- 2: parts, LINKS, RELIEF ----

    private static void percents() {
        says("PERCENT of a in b on a DAY: as told by the owns of these two whose DAY is the latest that is not behind it "
            + "(of like ones the last told; 0 without).");
        ReliefDesk x = desk("member a 0 0;member b 0 0;member c 0 0;owns a b 40 20;owns a b 30 10;owns a b 31 10;owns a c 99 15;"
            + "owns b c 98 5;");
        due("without", x.percent(0, 1, 9), 0);
        due("of like ones the last told", x.percent(0, 1, 10), 31);
        due("those of others count not", x.percent(0, 1, 15), 31);
        due("the DAY ahead of the next", x.percent(0, 1, 19), 31);
        due("the latest, though told first", x.percent(0, 1, 20), 40);
        due("the last DAY", x.percent(0, 1, 999), 40);
        due("a DAY told again behind all", x.own(0, 1, 0, 20), 6);
        due("the last told", x.percent(0, 1, 999), 0);
        due("those ahead stay", x.percent(0, 1, 19), 31);
    }

    private static void shares() {
        says("SHARE of a in b on a DAY, a float: 1 of itself; 0, if a is greater than b;");
        ReliefDesk x = desk("member a 0 0;member b 0 0;member c 0 0;member d 0 0;owns a b 55 0;owns a c 8 0;owns a d 1 0;"
            + "owns b c 31 0;owns b d 33 0;owns c d 27 0;");
        due("itself", x.share(3, 3, 999), 0x3F800000);
        due("greater", x.share(3, 2, 0), 0);
        due("greater", x.share(1, 0, 0), 0);
        says("else from 0 on, by all c from a to b less 1 in order, more by SHARE of a in c times "
            + "(PERCENT of c in b, as a float, by 100): all in floats, in that order.");
        /* In another order, or by doubles, or times PERCENT ahead of by 100, the last bit is another one. */
        due("in that order", x.share(0, 3, 0), 1048882521);
        due("one step", x.share(0, 1, 0), Float.floatToIntBits(0.55f));
        due("none told", desk(TWO).share(0, 1, 0), 0);
        ReliefDesk most = desk(members(8));
        for (int a = 0; a < 7; a++) {
            for (int b = a + 1; b < 8 && most.count(2) < 24; b++) {
                most.own(a, b, 100, 0);
            }
        }
        due("eight times all of it", most.share(0, 4, 0), Float.floatToIntBits(8f));
        ReliefDesk least = desk(members(8));
        float part = 1f;
        for (int a = 0; a < 7; a++) {
            least.own(a, a + 1, 1, 0);
            part = 0f + part * (1f / 100f);
        }
        due("seven times a hundredth", least.share(0, 7, 0), Float.floatToIntBits(part));
    }

    private static void controls() {
        says("a CONTROLS b, a less than b: SHARE times 100 (a float) is GATE or more.");
        String chain = "member a 0 0;member b 0 0;member c 0 0;";
        due("at the GATE", desk("gate 75;" + TWO + "owns a b 75 0;").controls(0, 1, 0), 1);
        due("one below", desk("gate 75;" + TWO + "owns a b 74 0;").controls(0, 1, 0), 0);
        due("all of it", desk("gate 100;" + TWO + "owns a b 100 0;").controls(0, 1, 0), 1);
        due("nearly all of it", desk("gate 100;" + TWO + "owns a b 99 0;").controls(0, 1, 0), 0);
        due("the least GATE", desk("gate 1;" + TWO + "owns a b 1 0;").controls(0, 1, 0), 1);
        due("nothing at the least GATE", desk("gate 1;" + TWO + "owns a b 0 0;").controls(0, 1, 0), 0);
        due("b less than a", desk("gate 1;" + TWO + "owns a b 100 0;").controls(1, 0, 0), 0);
        /* As floats 53 by 100 times 100 is below 53, and 70 by 100 times 70 by 100 times 100 below 49. */
        due("the float of 53", desk("gate 53;" + TWO + "owns a b 53 0;").controls(0, 1, 0), 0);
        due("the float of 59", desk("gate 59;" + TWO + "owns a b 59 0;").controls(0, 1, 0), 0);
        due("the float of 54", desk("gate 54;" + TWO + "owns a b 54 0;").controls(0, 1, 0), 1);
        due("the float of 49", desk("gate 49;" + chain + "owns a b 70 0;owns b c 70 0;").controls(0, 2, 0), 0);
        due("the float of 81", desk("gate 81;" + chain + "owns a b 90 0;owns b c 90 0;").controls(0, 2, 0), 0);
        due("76 by a chain", desk("gate 76;" + chain + "owns a b 80 0;owns b c 95 0;").controls(0, 2, 0), 1);
    }

    private static void relatives() {
        says("RELATED are two unlike MEMBERS on a DAY, if one CONTROLS the other one, or a third one both.");
        String four = "member a 0 0;member b 0 0;member c 0 0;member d 0 0;";
        ReliefDesk x = desk(four + "owns a b 80 0;owns b c 80 0;");
        due("a to b, as 64 is below 75 not to c", x.related(0, 0), 2);
        due("b to a and c", x.related(1, 0), 1 | 4);
        due("c to b", x.related(2, 0), 2);
        due("d to none", x.related(3, 0), 0);
        x = desk(four + "owns b c 80 0;owns b d 80 0;");
        due("c to d by a third one", x.related(2, 0), 2 | 8);
        due("d to c by a third one", x.related(3, 0), 2 | 4);
        x = desk(four + "owns a c 80 0;owns b c 80 0;owns c d 100 0;");
        due("two who both CONTROL a third one are not", x.related(0, 0), 4 | 8);
        due("on the other side neither", x.related(1, 0), 4 | 8);
        x = desk(four + "owns a b 100 5;owns a b 0 6;");
        due("the DAY ahead", x.related(0, 4), 0);
        due("on that DAY alone", x.related(0, 5), 2);
        due("the DAY behind", x.related(0, 6), 0);
    }

    private static void lossesAndShared() {
        says("A PERIOD whose RESULT is below 0 is a LOSS of so much, above 0 a PROFIT.");
        ReliefDesk x = desk(TWO + "owns a b 100 0;period a 0 0 -1;period a 1 1 0;period a 2 2 1;period b 0 2 1;");
        due("LOSSES", x.count(6), 1);
        due("PROFITS", x.count(7), 2);
        due("-1 is a LOSS", x.bound(0, 3), 0);
        due("0 is none", x.bound(1, 3), NONE);
        due("1 is none", x.bound(2, 3), NONE);
        due("0 is neither", x.period(1, 4), 0);
        due("a LOSS of so much", x.period(0, 4), 1);

        says("SHARED of two PERIODS of unlike MEMBERS: the DAYS that lie in both and on which their MEMBERS are RELATED.");
        String ten = "period a 10 19 -10;period b ";
        String always = TWO + "owns a b 100 0;" + ten;
        due("the DAY ahead", desk(always + "5 9 1;").shared(0, 1), 0);
        due("the first DAY", desk(always + "5 10 1;").shared(0, 1), 1);
        due("all DAYS", desk(always + "0 999 1;").shared(0, 1), 10);
        due("within", desk(always + "12 14 1;").shared(0, 1), 3);
        due("the last DAY", desk(always + "19 25 1;").shared(0, 1), 1);
        due("the DAY behind", desk(always + "20 25 1;").shared(0, 1), 0);
        String all = ten + "10 19 1;";
        due("RELATED from the last DAY on", desk(TWO + "owns a b 100 19;" + all).shared(0, 1), 1);
        due("RELATED from the DAY behind on", desk(TWO + "owns a b 100 20;" + all).shared(0, 1), 0);
        due("till the first DAY", desk(TWO + "owns a b 100 0;owns a b 0 11;" + all).shared(0, 1), 1);
        due("till the DAY ahead", desk(TWO + "owns a b 100 0;owns a b 0 10;" + all).shared(0, 1), 0);
        due("on one DAY", desk(TWO + "owns a b 100 14;owns a b 0 15;" + all).shared(0, 1), 1);
        due("on DAYS 10, 11, 18, 19",
            desk(TWO + "owns a b 100 0;owns a b 0 12;owns a b 75 18;" + all).shared(0, 1), 4);
        due("all 1000", desk(TWO + "owns a b 75 0;period a 0 999 0;period b 0 999 0;").shared(0, 1), 1000);
        due("of one MEMBER", desk(TWO + "period a 0 0 -1;period a 1 1 1;").shared(0, 1), NONE);
    }

    private static ReliefDesk pair(String periods) {
        return desk(TWO + "owns a b 100 0;" + periods);
    }

    private static void bounds() {
        says("A LINK: a LOSS i, a PROFIT j of unlike MEMBERS;");
        ReliefDesk x = pair("period a 0 9 -7;period b 0 9 7;period b 10 19 -7;period a 10 19 7;period a 20 20 0;period b 20 20 0;");
        due("LOSS to PROFIT", x.bound(0, 1), 7);
        due("the other way", x.bound(1, 0), NONE);
        due("LOSS of b to PROFIT of a", x.bound(2, 3), 7);
        due("of one MEMBER", x.bound(0, 3), NONE);
        due("of one MEMBER", x.bound(2, 1), NONE);
        due("LOSS to LOSS", x.bound(0, 2), NONE);
        due("PROFIT to PROFIT", x.bound(1, 3), NONE);
        due("from RESULT 0", x.bound(4, 1), NONE);
        due("to RESULT 0", x.bound(0, 5), NONE);
        due("to itself", x.bound(0, 0), NONE);

        says("BOUND: the lesser of (i's times SHARED by i's DAYS) and (j's times SHARED by j's DAYS), both downwards.");
        due("the LOSS is the lesser", pair("period a 0 9 -99;period b 0 9 100;").bound(0, 1), 99);
        due("the PROFIT is the lesser", pair("period a 0 9 -101;period b 0 9 100;").bound(0, 1), 100);
        due("10 times 2 by 3", pair("period a 0 2 -10;period b 0 1 99999;").bound(0, 1), 6);
        due("11 times 2 by 3", pair("period a 0 1 -99999;period b 0 2 11;").bound(0, 1), 7);
        due("12 times 2 by 3", pair("period a 0 1 -99999;period b 0 2 12;").bound(0, 1), 8);
        due("1 times 999 by 1000", pair("period a 0 999 -1;period b 0 998 9;").bound(0, 1), 0);
        due("the greatest", pair("period a 0 999 -99999;period b 0 999 99999;").bound(0, 1), 99999);
        due("the greatest of all but one DAY", pair("period a 0 999 -99999;period b 0 998 99999;").bound(0, 1), 99899);
        due("nothing SHARED", pair("period a 0 9 -10;period b 10 19 10;").bound(0, 1), 0);
    }

    private static void prices() {
        String asked = "owns a b 100 0;period a 0 9 -5;period b 0 9 5;";
        says("PRICE, by price 0: ASKS of i's MEMBER;");
        due("most", desk("member a 99 1;member b 5 99;" + asked).price(0, 1), 99);
        due("least", desk("price 0;member a 0 99;member b 99 99;" + asked).price(0, 1), 0);
        says("1: that, and 99, less RATE of j's MEMBER;");
        due("most", desk("price 1;member a 99 99;member b 5 0;" + asked).price(0, 1), 198);
        due("least", desk("price 1;member a 0 0;member b 99 99;" + asked).price(0, 1), 0);
        due("between", desk("price 1;member a 10 0;member b 99 30;" + asked).price(0, 1), 79);
        says("2: ASKS of i's MEMBER and RATE of j's, the difference without sign.");
        due("ASKS are more", desk("price 2;member a 99 50;member b 50 0;" + asked).price(0, 1), 99);
        due("RATE is more", desk("price 2;member a 0 50;member b 50 99;" + asked).price(0, 1), 99);
        due("none", desk("price 2;member a 44 5;member b 6 44;" + asked).price(0, 1), 0);
    }

    private static void carries() {
        String one = "member a 50 50;period a 10 19 -70;period a ";
        says("With carry 1 a LINK, too: a LOSS i, a PROFIT j of one MEMBER, j's first DAY behind i's last one: a CARRY:");
        due("right behind it", desk("carry 1;" + one + "20 20 70;").bound(0, 1), 70);
        due("far behind it", desk("carry 1;" + one + "999 999 70;").bound(0, 1), 70);
        due("ahead of it", desk("carry 1;" + one + "9 9 70;").bound(0, 1), NONE);
        due("from the PROFIT", desk("carry 1;" + one + "20 20 70;").bound(1, 0), NONE);
        due("LOSS to LOSS", desk("carry 1;" + one + "20 20 -70;").bound(0, 1), NONE);
        due("to RESULT 0", desk("carry 1;" + one + "20 20 0;").bound(0, 1), NONE);
        due("with carry 0", desk("carry 0;" + one + "20 20 70;").bound(0, 1), NONE);
        due("without carry", desk(one + "20 20 70;").bound(0, 1), NONE);
        says("BOUND is the lesser of both, PRICE 0, PAID for it 0.");
        ReliefDesk x = desk("carry 1;" + one + "20 20 69;");
        due("the PROFIT is the lesser, whatever the DAYS", x.bound(0, 1), 69);
        due("the LOSS is the lesser", desk("carry 1;" + one + "20 20 71;").bound(0, 1), 70);
        for (int price = 0; price <= 2; price++) {
            due("PRICE by price " + price, desk("carry 1;price " + price + ";" + one + "20 20 71;").price(0, 1), 0);
        }
        due("prices of RELIEF", x.solved(1), 0);
        due("PAID by it", x.pays(0, 0), 0);
        due("PAID to it", x.pays(0, 1), 0);
        x.claim(0, 1, 69);
        due("PAID for the CLAIM", x.claimed(0, 3), 0);
        due("PAID by CLAIMS", x.pays(0, 2), 0);
        due("PAID to it by CLAIMS", x.pays(0, 3), 0);
        due("BALANCE", x.balance(0), 0);
    }

    private static void claims() {
        says("CLAIMS, at most 30, numbered from 0 on: so much from a LOSS to a PROFIT.");
        ReliefDesk x = desk(Bench.SQUARE);
        for (int k = 0; k < 30; k++) {
            due("claim", x.claim(k % 2, 2 + k / 2 % 2, 1 + k % 3), k);
        }
        due("a 31st", x.claim(0, 2, 1), -2);
        for (int k = 0; k < 30; k++) {
            BENCH.dueEach(x, "claimed", Bench.args(k), k % 2, 2 + k / 2 % 2, 1 + k % 3);
        }
        says("OPEN: a LOSS, a PROFIT less what CLAIMS take of it; ROOM of a LINK: BOUND less its CLAIMS.");
        x = desk(Bench.SQUARE);
        x.claim(0, 2, 30);
        x.claim(0, 2, 5);
        x.claim(0, 3, 7);
        x.claim(1, 3, 11);
        int[] open = {58, 89, 65, 82};
        int[][] room = {{65, 93}, {100, 89}};
        for (int p = 0; p < 4; p++) {
            due("OPEN of " + p, x.period(p, 4), open[p]);
        }
        for (int i = 0; i < 2; i++) {
            for (int j = 0; j < 2; j++) {
                due("ROOM of " + i + ", " + (2 + j), x.room(i, 2 + j), room[i][j]);
            }
        }
        x.claim(0, 2, 58);
        due("all OPEN", x.period(0, 4), 0);
        due("but not all ROOM", x.room(0, 2), 7);
        due("used up", x.claim(0, 2, 1), -3);
    }

    /* Losses 0 of a, 1 of b, 2 of c; profits 3 of d, 4 of e: a to d; b to d and e; c to e. */
    private static final String FIVE = "member a 5 0;member b 1 0;member c 5 0;member d 0 0;member e 0 0;"
        + "owns a d 100 0;owns b d 100 0;owns b e 100 0;owns c e 100 0;";

    private static void routes() {
        says("RELIEF: on each LINK 0 at first. A ROUTE: PERIODS, one behind another, none twice:");
        ReliefDesk x = desk(FIVE);
        due("no PERIODS, no ROUTE", x.solved(2), 0);
        x = pair("period a 0 9 -10;period b 10 19 10;");
        due("no ROOM, no ROUTE", x.solved(2), 0);
        due("RELIEF", x.relief(0, 1), 0);
        says("from a LOSS whose OPEN is not used up by RELIEF, forth by a LINK whose ROOM isn't, to a PROFIT,");
        x = pair("period a 0 9 -10;period b 0 9 10;");
        due("all of both", x.relief(0, 1), 10);
        due("one ROUTE", x.solved(2), 1);
        x.claim(0, 1, 9);
        due("what is OPEN", x.relief(0, 1), 1);
        x.claim(0, 1, 1);
        due("OPEN used up by CLAIMS", x.solved(2), 0);
        x = pair("period a 0 9 -10;period b 0 4 10;");
        due("ROOM alone", x.relief(0, 1), 5);
        x.claim(0, 1, 5);
        due("ROOM used up by CLAIMS", x.solved(2), 0);
        due("with OPEN left", x.left(0), 5);
        says("back by a LINK with RELIEF to a LOSS, forth again, and so on, to a PROFIT whose OPEN is not used up.");
        /* The cheapest, of b, goes to d first; a can only come to d, so b must go back and on to e. */
        x = desk(FIVE + "period a 0 9 -40;period b 0 9 -100;period c 0 9 0;period d 0 9 100;period e 0 9 70;");
        due("two ROUTES", x.solved(2), 2);
        due("a to d", x.relief(0, 3), 40);
        due("b to d, back", x.relief(1, 3), 60);
        due("b to e, forth again", x.relief(1, 4), 40);
        due("all", x.solved(0), 140);
        due("COST 1 a hundred times, then 5 less 1 and 1 forty times", x.solved(1), 100 + 200);
        /* A ROUTE of six PERIODS: back twice. */
        x = desk("member a 9 0;member b 5 0;member c 1 0;member d 0 0;member e 0 0;member f 0 0;"
            + "owns a d 100 0;owns b d 100 0;owns b e 100 0;owns c e 100 0;owns c f 100 0;"
            + "period a 0 9 -10;period b 0 9 -10;period c 0 9 -10;period d 0 9 10;period e 0 9 10;period f 0 9 10;");
        due("three ROUTES", x.solved(2), 3);
        due("all", x.solved(0), 30);
        for (int k = 0; k < 3; k++) {
            due("on " + k, x.relief(k, k + 3), 10);
        }
        due("back from d", x.relief(1, 3), 0);
        due("back from e", x.relief(2, 4), 0);
    }

    private static void routeOrder() {
        says("COST: PRICES of LINKS forth less those of LINKS back. The next ROUTE: that of the least COST,");
        ReliefDesk x = desk(Bench.SQUARE.replace("a 10 0", "a 21 0").replace("d 0 9 100", "d 0 9 0"));
        due("b is cheaper", x.route(0), 1);
        due("b to c", x.relief(1, 2), 100);
        due("a to c", x.relief(0, 2), 0);
        x = desk("price 1;" + Bench.SQUARE);
        due("the higher RATE of d is cheaper", x.route(1), 3);
        /* 0 by 3 back to 1 and on to 4 costs 5 less 1 and 1; 2 to 4 costs what c asks. */
        x = desk(FIVE.replace("c 5 0", "c 4 0")
            + "period a 0 9 -50;period b 0 9 -100;period c 0 9 -50;period d 0 9 100;period e 0 9 50;");
        due("2 to 4 at 4 ahead of 0 at 5", x.relief(2, 4), 50);
        x = desk(FIVE.replace("c 5 0", "c 6 0")
            + "period a 0 9 -50;period b 0 9 -100;period c 0 9 -50;period d 0 9 100;period e 0 9 50;");
        due("0 by 3, 1 to 4 at 5 ahead of 2 at 6", x.relief(0, 3), 50);
        due("forth again", x.relief(1, 4), 50);
        due("none of 2", x.relief(2, 4), 0);

        says("of several of the fewest PERIODS,");
        x = desk(FIVE + "period a 0 9 -50;period b 0 9 -100;period c 0 9 -50;period d 0 9 100;period e 0 9 50;");
        due("2 to e, with two PERIODS", x.relief(2, 4), 50);
        due("ahead of 0 by d, 1 to e, with four", x.relief(0, 3), 0);
        due("1 to d stays", x.relief(1, 3), 100);
        due("two ROUTES", x.solved(2), 2);

        says("of several the first by their numbers, one behind another:");
        x = desk(Bench.SQUARE.replace("b 20 0", "b 10 0"));
        due("the first LOSS", x.route(0), 0);
        due("the first PROFIT", x.route(1), 2);
        due("then the others", x.relief(1, 3), 100);
        /* Losses 0 of a (dear), 1 of b, 2 of c (cheap); profit 3 of d is shared by all; 1 goes on to 5, 2 to 4. */
        String six = "member a 5 0;member b 1 0;member c 1 0;member d 0 0;member e 0 0;member f 0 0;"
            + "owns a d 100 0;owns b d 100 0;owns c d 100 0;owns b f 100 0;owns c e 100 0;"
            + "period a 0 9 -30;period b 0 9 -50;period c 0 9 -50;period d 0 9 100;period e 0 9 30;period f 0 9 30;";
        x = desk(six);
        due("three ROUTES", x.solved(2), 3);
        due("0 by 3, then 1 ahead of 2", x.relief(1, 5), 30);
        due("not 2 to 4", x.relief(2, 4), 0);
        due("back from 1", x.relief(1, 3), 20);
        x = desk(six.replace("owns b f 100 0;", "owns b f 100 0;owns b e 100 0;"));
        due("0 by 3, 1, then 4 ahead of 5", x.relief(1, 4), 30);
        due("not 5", x.relief(1, 5), 0);
    }

    private static void routeAmounts() {
        says("along it as much RELIEF is more on LINKS forth, less on LINKS back, as can be. Till there is none.");
        due("as the LOSS has", pair("period a 0 9 -7;period b 0 9 9;").relief(0, 1), 7);
        due("as the PROFIT has", pair("period a 0 9 -9;period b 0 9 7;").relief(0, 1), 7);
        due("as ROOM is", pair("period a 0 9 -9;period b 0 2 100;").relief(0, 1), 2);
        String from = FIVE.replace("member c 5 0", "member c 99 0");
        ReliefDesk x = desk(from + "period a 0 9 -90;period b 0 9 -30;period c 0 9 0;period d 0 9 50;period e 0 9 80;");
        due("first all of b", x.route(0), 1);
        due("then 20 of a, then as much as lies on the LINK back", x.relief(0, 3), 50);
        due("nothing on it any more", x.relief(1, 3), 0);
        due("forth again", x.relief(1, 4), 30);
        due("three ROUTES", x.solved(2), 3);
        due("all", x.solved(0), 80);
        x = desk(from + "period a 0 9 -90;period b 0 9 -30;period c 0 9 0;period d 0 9 30;period e 0 9 12;");
        due("as the last PROFIT has", x.relief(1, 4), 12);
        due("less on the LINK back", x.relief(1, 3), 18);
        due("more on the LINK forth", x.relief(0, 3), 12);
        x = desk(from + "period a 0 9 -4;period b 0 9 -30;period c 0 9 0;period d 0 9 30;period e 0 9 12;");
        due("as the first LOSS has", x.relief(1, 4), 4);
        x = desk(from + "period a 0 9 -90;period b 0 9 -30;period c 0 9 0;period d 0 9 30;period e 0 1 30;");
        due("as ROOM of the last LINK is", x.relief(1, 4), 6);
        x = desk(from + "period a 0 9 -90;period b 5 9 -30;period c 0 9 0;period d 5 9 30;period e 5 9 30;");
        due("as ROOM of the first LINK is", x.relief(0, 3), 30);
        x = desk(from + "period a 0 9 -50;period b 5 9 -30;period c 0 9 0;period d 5 9 30;period e 5 9 30;");
        due("as ROOM of the first LINK is", x.relief(0, 3), 25);
    }

    private static void reached() {
        says("REACHED (behind that): LOSSES whose OPEN is not used up; "
            + "and all that one comes to from these by LINKS forth, back as above.");
        due("nothing there", desk(FIVE).reached(), 0);
        due("all used up", pair("period a 0 9 -5;period b 0 9 5;").reached(), 0);
        due("the PROFIT is not used up", pair("period a 0 9 -5;period b 0 9 6;").reached(), 0);
        due("forth to a PROFIT with ROOM", pair("period a 0 9 -6;period b 0 9 5;").reached(), 1);
        due("forth with ROOM left", desk(FIVE + "period a 0 9 -50;period b 0 9 -10;period d 0 9 50;").reached(), 1 | 2 | 4);
        due("ROOM used up stops it", pair("period a 0 9 -10;period b 0 4 10;").reached(), 1);
        due("no LINK with ROOM", pair("period a 0 9 -10;period b 10 19 10;").reached(), 1);
        ReliefDesk x = desk(FIVE + "period a 0 9 -50;period b 0 9 -100;period c 0 9 -50;period d 0 9 100;period e 0 9 50;");
        due("0 forth to 3, back to 1, forth to 4, back to 2", x.reached(), 31);
        x = desk(FIVE + "period a 0 9 -50;period b 0 9 -50;period c 0 9 -60;period d 0 9 100;period e 0 9 50;");
        due("2 to 4 alone is full; from 4 nothing goes back but to 2", x.reached(), 4);
        x = pair("period a 0 9 -10;period b 0 9 10;");
        x.claim(0, 1, 10);
        due("OPEN used up by CLAIMS", x.reached(), 0);
    }

    // ---- 3: what is paid, and chance ----

    private static ReliefDesk asking(int asks, int amount) {
        return desk("member a " + asks + " 0;member b 77 0;owns a b 100 0;period a 0 9 -" + amount + ";period b 0 9 99999;");
    }

    private static void paid() {
        says("PAID for an amount by a LINK (no CARRY): amount times ASKS of the LOSS' MEMBER by 100, downwards.");
        int[][] rows = {{0, 99999, 0}, {1, 99, 0}, {1, 100, 1}, {99, 1, 0}, {99, 2, 1}, {50, 3, 1}, {99, 99999, 98999}};
        for (int[] row : rows) {
            ReliefDesk x = asking(row[0], row[1]);
            due("RELIEF " + row[1] + " at " + row[0], x.pays(1, 0), row[2]);
            x.claim(0, 1, row[1]);
            due("CLAIM " + row[1] + " at " + row[0], x.claimed(0, 3), row[2]);
        }
        says("BALANCE of a MEMBER: all PAID to it less all PAID by it, for RELIEF and CLAIMS.");
        /* a and b both give and take: a LOSS of a on days 0 .. 9, one of b on days 10 .. 19. */
        ReliefDesk x = desk("member a 10 0;member b 30 0;owns a b 100 0;"
            + "period a 0 9 -100;period b 0 9 100;period b 10 19 -100;period a 10 19 100;");
        x.claim(0, 1, 45);
        x.claim(2, 3, 25);
        due("a: 4 and 5 less 7 and 22", x.balance(0), 4 + 5 - 7 - 22);
        due("b", x.balance(1), 7 + 22 - 4 - 5);
    }

    private static void settling() {
        says("SETTLING: as long as one has a BALANCE below 0:");
        due("no MEMBERS", new ReliefDesk().settles(), 0);
        due("all 0", desk(FIVE).settles(), 0);
        due("one pays one", asking(50, 100).settles(), 1);
        due("less than 1 is 0", asking(50, 1).settles(), 0);
        says("the one who has the least, of several the first, pays the one who has the greatest, of several the first, "
            + "as much as makes one of both 0.");
        /* One payer of each PROFIT: losses of a (100 at 50), profits of b 20, c 40, d 40. */
        String one = "member a 50 0;member b 0 0;member c 0 0;member d 0 0;owns a b 100 0;owns a c 100 0;owns a d 100 0;";
        ReliefDesk x = desk(one + "period a 0 9 -100;period b 0 9 20;period c 0 9 40;period d 0 9 40;");
        due("three payments", x.settles(), 3);
        BENCH.dueEach(x, "settling", Bench.args(0), 2, 0, 20);
        BENCH.dueEach(x, "settling", Bench.args(1), 3, 0, 20);
        BENCH.dueEach(x, "settling", Bench.args(2), 1, 0, 10);
        due("not so many", x.settling(3, 0), -2);
        /* Losses of a, b, c, of 40, 40 and 20; one PROFIT of d. */
        String many = "member a 50 0;member b 50 0;member c 50 0;member d 0 0;owns a d 100 0;owns b d 100 0;owns c d 100 0;";
        x = desk(many + "period a 0 9 -20;period b 0 9 -40;period c 0 9 -40;period d 0 9 100;");
        due("three payments", x.settles(), 3);
        BENCH.dueEach(x, "settling", Bench.args(0), 3, 1, 20);
        BENCH.dueEach(x, "settling", Bench.args(1), 3, 2, 20);
        BENCH.dueEach(x, "settling", Bench.args(2), 3, 0, 10);
        /* Both to 0 at once. */
        x = desk("member a 50 0;member b 50 0;member c 0 0;member d 0 0;owns a c 100 0;owns b d 100 0;"
            + "period a 0 9 -100;period b 0 9 -60;period c 0 9 100;period d 0 9 60;");
        due("two payments", x.settles(), 2);
        BENCH.dueEach(x, "settling", Bench.args(0), 2, 0, 50);
        BENCH.dueEach(x, "settling", Bench.args(1), 3, 1, 30);
    }

    private static void tax() {
        says("TAX of a MEMBER: for each PROFIT of it: what of OPEN RELIEF doesn't use up, times RATE by 100, downwards; together.");
        String taxed = "member a 0 99;member b 0 50;owns a b 100 0;";
        ReliefDesk x = desk(taxed + "period b 0 9 3;period b 10 19 5;period b 20 29 1;period b 30 39 0;period b 40 49 -99;");
        due("1 and 2 and 0", x.tax(1), 3);
        due("no PROFITS", x.tax(0), 0);
        x = desk(taxed + "period a 0 9 -90;period b 0 9 100;");
        due("RELIEF uses up 90", x.tax(1), 5);
        x.claim(0, 1, 50);
        due("CLAIMS and RELIEF together", x.tax(1), 5);
        due("all used up", desk(taxed + "period a 0 9 -100;period b 0 9 100;").tax(1), 0);
        due("RATE 0", desk(FIVE + "period a 0 9 99999;").tax(0), 0);
        due("most", desk(taxed + "period a 0 9 99999;period a 10 19 99999;").tax(0), 2 * 98999);
    }

    /** DRAWS by whole numbers without end: what is above 31 bits goes. */
    private static BigInteger next(BigInteger number) {
        BigInteger more = number.multiply(BigInteger.valueOf(1103515245)).add(BigInteger.valueOf(12345));
        return more.mod(BigInteger.ONE.shiftLeft(31));
    }

    private static int drawn(BigInteger number, int modulo) {
        return number.divide(BigInteger.valueOf(65536)).mod(BigInteger.valueOf(modulo)).intValue();
    }

    /** How much comes by chance on a square with so much OPEN that every CLAIM from 0, 1 to 2, 3 can be, up to 30. */
    private static int sumOf(int seed, int n) {
        BigInteger number = BigInteger.valueOf(seed);
        int sum = 0;
        int claims = 0;
        for (int k = 0; k < n; k++) {
            number = next(number);
            int i = drawn(number, 4);
            number = next(number);
            int j = drawn(number, 4);
            number = next(number);
            int amount = drawn(number, 1000) + 1;
            if (i < 2 && j >= 2 && claims < 30) {
                sum += amount;
                claims++;
            }
        }
        return sum;
    }

    private static void draws() {
        String wide = Bench.SQUARE.replace("100;", "99999;");
        says("DRAW: the last number (at first the seed) times 1103515245, and 12345 more, without what is above 31 bits, "
            + "is the next one; this by 65536, rounded down, modulo what is said, is drawn.");
        /* From 0: 12345, 1406932606, 654583775, 1449466924: drawn are 0, 21468, 9988, 22117. */
        ReliefDesk x = desk(wide);
        due("as worked out by hand: 0, 0, 989: no LINK", x.chance(0, 1, 0), 0);
        int[] seeds = {0, 1, 2, 99999, 65535, 65536, 1 << 30, (1 << 30) - 1, 2147483646, 2147483647, 1103515245};
        for (int seed : seeds) {
            for (int n : new int[] {1, 2, 3, 7, 20, 60}) {
                due("from " + seed + ", " + n + " times", x.chance(seed, n, 1), sumOf(seed, n));
            }
        }
        for (int seed = 3; seed < 120; seed++) {
            due("from " + seed + " once", x.chance(seed, 1, 1), sumOf(seed, 1));
        }
    }

    private static void byChance() {
        says("BY CHANCE: n times: a PERIOD, another one, an amount: DRAWS modulo PERIODS, PERIODS, 1000, and 1 more: "
            + "a CLAIM by these, if it can be.");
        ReliefDesk x = desk("member a 0 0;period a 0 0 -5;");
        due("one PERIOD: it is no LINK to itself", x.chance(0, 60, 0), 0);
        /* OPEN and ROOM of 500 are less than most amounts, and are used up by those that come. */
        String some = Bench.SQUARE.replace("100;", "500;");
        x = desk(some);
        ReliefDesk byHand = desk(some);
        BigInteger number = BigInteger.valueOf(77);
        int came = 0;
        int sum = 0;
        for (int k = 1; k <= 60; k++) {
            int[] drawn = new int[3];
            for (int d = 0; d < 3; d++) {
                number = next(number);
                drawn[d] = drawn(number, d < 2 ? 4 : 1000);
            }
            if (byHand.claim(drawn[0], drawn[1], drawn[2] + 1) >= 0) {
                came++;
                sum += drawn[2] + 1;
            }
            due("how many of " + k, x.chance(77, k, 0), came);
            due("how much of " + k, x.chance(77, k, 1), sum);
            due("RELIEF behind " + k, x.chance(77, k, 2), byHand.solved(0));
        }
        x = desk(Bench.SQUARE.replace("100;", "99999;"));
        for (int k = 0; k < 28; k++) {
            x.claim(0, 2, 1);
        }
        due("there are 28: two come", x.chance(5, 60, 0), 2);
    }

    // ---- 4: undone, IMAGES, the order of answers ----

    private static void undone() {
        says("CLAIMS made, withdrawn, RESULTS, parts otherwise can be undone, the latest first (20 at most).");
        ReliefDesk x = desk(Bench.SQUARE);
        x.claim(0, 2, 10);
        x.claim(1, 3, 20);
        x.withdraw(0);
        x.result(0, -7);
        x.own(0, 1, 90, 3);
        due("five", x.count(8), 5);
        due("parts", x.undo(), 4);
        due("owns", x.count(2), 3);
        due("RESULT stays yet", x.period(0, 3), -7);
        due("RESULT", x.undo(), 3);
        due("RESULT", x.period(0, 3), -100);
        due("withdrawn stays yet", x.count(3), 1);
        due("withdrawn", x.undo(), 2);
        due("it is the first again", x.claimed(0, 2), 10);
        due("a CLAIM", x.undo(), 1);
        due("one CLAIM yet", x.count(3), 1);
        due("the first CLAIM", x.undo(), 0);
        due("no CLAIM", x.count(3), 0);
        due("none", x.undo(), NONE);
        for (int k = 1; k <= 20; k++) {
            x.claim(0, 2, 1);
            due("can be undone", x.count(8), k);
        }
        x.claim(0, 2, 1);
        due("20 at most", x.count(8), 20);
        for (int k = 19; k >= 0; k--) {
            due("undo", x.undo(), k);
        }
        due("the first of 21 stays", x.count(3), 1);
        due("none", x.undo(), NONE);
    }

    private static void images() {
        says("An IMAGE keeps CLAIMS, RESULTS, parts.");
        ReliefDesk x = desk(Bench.SQUARE);
        x.claim(0, 2, 10);
        x.result(3, 50);
        x.own(0, 1, 90, 3);
        x.keep();
        x.withdraw(0);
        x.claim(1, 3, 40);
        x.result(2, -5);
        x.own(0, 1, 95, 3);
        x.own(2, 3, 11, 0);
        due("back", x.back(), 1);
        BENCH.dueEach(x, "claimed", Bench.args(0), 0, 2, 10);
        due("RESULT", x.period(2, 3), 100);
        due("RESULT", x.period(3, 3), 50);
        due("owns", x.count(2), 4);
        due("PERCENT", x.percent(0, 1, 3), 90);
        due("PERCENT", x.percent(2, 3, 3), 0);
    }

    private static void answersInOrder() {
        says("Of several answers that hold NONE goes first, then -2, then -3;");
        ReliefDesk x = desk(Bench.SQUARE);
        for (int k = 0; k < 30; k++) {
            x.claim(0, 2, 1);
        }
        due("claim: no LINK, 30, more than ROOM", x.claim(0, 1, 99999), NONE);
        due("claim: no n, 30", x.claim(0, 2, 100000), NONE);
        due("claim: 30, more than ROOM", x.claim(0, 2, 99999), -2);
        x.withdraw(0);
        due("claim: more than ROOM", x.claim(0, 2, 99999), -3);
        for (int k = 4; k <= 23; k++) {
            x.own(0, 2, 100, 0);
        }
        due("own: CLAIMS would be more", x.own(0, 2, 0, 0), -3);
        due("a 24th", x.own(0, 2, 100, 0), 24);
        due("own: 24, CLAIMS would be more", x.own(0, 2, 0, 0), -2);
        due("own: no such ones, 24, CLAIMS would be more", x.own(0, 2, 0, 1000), NONE);
        due("own: not greater, 24", x.own(2, 0, 0, 0), NONE);
        due("settling: no what, not so many", x.settling(99, 3), NONE);
        due("settling: not so many", x.settling(99, 2), -2);
        due("days: no what, on none", desk(FIVE).days(0, 1, 3), NONE);
        due("steps: no DAY, no row", x.steps(3, 0, 1000), NONE);
        due("steps: no row", x.steps(3, 0, 999), -2);
        ReliefDesk y = desk(TWO + "period a 0 9 1;period a 10 19 1;");
        due("ifFirst: behind the last DAY", y.ifFirst(0, 10), NONE);
        due("ifFirst: below 0, a DAY in common", y.ifFirst(1, -1), NONE);
        due("ifFirst: a DAY in common", y.ifFirst(1, 9), -2);
        says("IndexOutOfBoundsException ahead of NoSuchElementException.");
        due("no MEMBER, no what", Bench.call(x, "member", 4, 3), Bench.THROWS_INDEX);
        due("no MEMBER, no what", Bench.call(x, "member", -1, -1), Bench.THROWS_INDEX);
        due("no what", Bench.call(x, "member", 3, 3), Bench.THROWS_NO_ELEMENT);
    }
}
