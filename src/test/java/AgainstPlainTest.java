import java.lang.reflect.InvocationTargetException;
import java.lang.reflect.Method;
import java.nio.charset.StandardCharsets;
import java.util.ArrayList;
import java.util.Arrays;
import java.util.HashMap;
import java.util.List;
import java.util.Map;
import java.util.Random;

/** Runs of calls drawn from fixed seeds: ReliefDesk must answer each as PlainDesk does, and throw nothing else. */
public final class AgainstPlainTest {
    private static final int RUNS = 600;
    private static final int CALLS = 512;

    /* Per method the kinds of its arguments: see draw(). */
    private static final String[] FACE = {
        "fault W", "named L", "member MW", "period PW", "percent MMD", "share MMD", "parts MMD", "controls MMD",
        "related MD", "groups D", "shared PP", "bound IJ", "room IJ", "price IJ", "claim IJN", "withdraw C",
        "claimed CW", "claimAll", "result PR", "own MMED", "relief IJ", "solved W", "reached", "left P", "pays MW",
        "balance M", "owes MM", "settles", "settling KW", "tax M", "without M", "worth IJN", "lack IJN", "byCarry B",
        "carried W", "route K", "steps MMD", "byGate G", "gateFor T", "days MMW", "ifFirst PF", "dearest",
        "chance SHW", "undo", "keep", "back", "count O"
    };
    /* Calls that change what stands come more often than the rest: each run has one of these moods. */
    private static final String[][] OFTEN = {
        {"claim IJN", "withdraw C", "own MMED", "result PR", "undo", "claimAll"},
        {"claim IJ1", "claim IJ1", "claim IJ1", "claim IJ1", "claim IJ1", "claim IJN", "withdraw C", "chance SHW"},
        {"claim IJN", "own MMED", "own MMED", "own MMED", "relief IJ", "without M"},
        {"claim IJN", "result PR", "undo", "route K", "solved W", "reached", "worth IJN", "lack IJN"}
    };

    private final Random random;
    private final int run;
    private ReliefDesk desk = new ReliefDesk();
    private PlainDesk plain = new PlainDesk();
    private int wrong = 0;
    private static final Map<String, Method> DESK = methods(ReliefDesk.class);
    private static final Map<String, Method> PLAIN = methods(PlainDesk.class);
    private static final Map<String, Integer> ASKED = new HashMap<>();

    private AgainstPlainTest(int run) {
        this.run = run;
        this.random = new Random(run * 7919L + 17);
    }

    public static void main(String[] args) {
        int runs = args.length > 1 ? Integer.parseInt(args[1]) : RUNS;
        int wrong = 0;
        for (int run = 0; run < runs && wrong < 20; run++) {
            wrong += new AgainstPlainTest(run).play();
        }
        System.out.println(runs + " runs, " + ASKED.values().stream().mapToInt(x -> x).sum() + " calls of "
            + ASKED.size() + " methods");
        if (wrong != 0) {
            System.out.println(wrong + " answers are not PlainDesk's");
            System.exit(1);
        }
    }

    private static Map<String, Method> methods(Class<?> type) {
        Map<String, Method> all = new HashMap<>();
        for (Method m : type.getDeclaredMethods()) {
            if (!m.getName().contains("$")) {
                all.put(m.getName(), m);
            }
        }
        return all;
    }

    private int play() {
        int calls = 0;
        int patience = run % 3 == 0 ? 40 : 150;
        while (calls < CALLS && wrong < 5) {
            if (calls == 0 || random.nextInt(patience) == 0) {
                calls += tell();
            }
            String[] face = random.nextInt(3) == 0 ? OFTEN[run % OFTEN.length] : FACE;
            ask(face[random.nextInt(face.length)]);
            calls++;
        }
        return wrong;
    }

    // ---- texts ----

    private int tell() {
        String text = random.nextInt(12) == 0 ? soup() : random.nextInt(3) == 0 ? order() : family();
        if (random.nextInt(4) == 0) {
            text = spoil(text);
        }
        byte[] bytes = text.getBytes(StandardCharsets.ISO_8859_1);
        int length = Math.min(bytes.length, 700 - desk.count(9));
        byte[] padded = Arrays.copyOf(bytes, (bytes.length + 19) / 20 * 20);
        Arrays.fill(padded, bytes.length, padded.length, (byte) ' ');
        int calls = 0;
        for (int at = 0; at < padded.length; at += 20) {
            int[] n = new int[5];
            for (int k = 0; k < 20; k++) {
                n[k / 4] = n[k / 4] << 8 | padded[at + k] & 255;
            }
            compare("feed", desk.feed(n[0], n[1], n[2], n[3], n[4]), plain.feed(n));
            calls++;
        }
        int tape = desk.count(9);
        int n = tape - padded.length < 0 ? tape : random.nextInt(15) == 0 ? tape + random.nextInt(3) : length;
        n = random.nextInt(40) == 0 ? -random.nextInt(3) : n;
        compare("text(" + n + ") of " + text, desk.text(n), plain.text(n));
        compare("fault(0) of " + text, desk.fault(0), plain.fault(0));
        compare("fault(1) of " + text, desk.fault(1), plain.fault(1));
        return calls + 3;
    }

    private int upTo(int n) {
        return random.nextInt(n + 1);
    }

    private String blank() {
        return random.nextInt(30) == 0 ? random.nextBoolean() ? "\n" : "  " : " ";
    }

    /** A TEXT that mostly holds, with many parts near the GATE and many PERIODS side by side. */
    private String order() {
        StringBuilder text = new StringBuilder();
        int members = random.nextInt(6) == 0 ? upTo(9) : 2 + upTo(6);
        int[] free = new int[9];
        List<String> lines = new ArrayList<>();
        for (int m = 0; m < members; m++) {
            text.append("member").append(blank()).append((char) ('a' + m));
            text.append(blank()).append(upTo(99)).append(blank()).append(upTo(99)).append(";");
        }
        int owns = random.nextInt(4) == 0 ? upTo(17) : members + upTo(3);
        for (int k = 0; k < owns && members > 1; k++) {
            int a = random.nextInt(members - 1);
            int b = a + 1 + random.nextInt(members - a - 1);
            int percent = random.nextInt(3) == 0 ? upTo(100) : random.nextBoolean() ? 100 - upTo(10) : 75 + upTo(6) - 3;
            int day = random.nextInt(3) == 0 ? upTo(999) : random.nextInt(3) == 0 ? upTo(40) : 0;
            lines.add("owns " + (char) ('a' + a) + " " + (char) ('a' + b) + " " + percent + blank() + day + ";");
        }
        int periods = random.nextInt(4) == 0 ? upTo(13) : 3 + upTo(9);
        int size = new int[] {9, 1000, 99999}[random.nextInt(3)];
        for (int k = 0; k < periods && members > 0; k++) {
            int m = random.nextInt(members);
            int first = Math.min(999, free[m] + (random.nextInt(3) == 0 ? upTo(20) : 0));
            int last = Math.min(999, first + (random.nextInt(3) == 0 ? upTo(300) : 4 + upTo(10)));
            free[m] = last + 1;
            int result = random.nextInt(12) == 0 ? 0 : 1 + upTo(size - 1);
            lines.add("period " + (char) ('a' + m) + " " + first + " " + last + blank()
                + (random.nextBoolean() ? "-" : "") + result + ";");
        }
        setting(lines, "gate", random.nextBoolean() ? 1 + upTo(99) : 50 + upTo(30), 2);
        setting(lines, "price", upTo(2), 4);
        setting(lines, "carry", upTo(4) > 0 ? 1 : 0, 3);
        setting(lines, "seed", upTo(99999), 2);
        java.util.Collections.shuffle(lines, random);
        lines.forEach(text::append);
        return text.toString();
    }

    /** A TEXT in which one owns most of all, with PERIODS that lie side by side: many LINKS, long ROUTES. */
    private String family() {
        StringBuilder text = new StringBuilder();
        int members = 4 + upTo(4);
        List<String> lines = new ArrayList<>();
        for (int m = 0; m < members; m++) {
            text.append("member ").append((char) ('a' + m)).append(" ").append(upTo(99)).append(" ").append(upTo(99)).append(";");
        }
        for (int m = 1; m < members; m++) {
            int owner = random.nextInt(4) == 0 ? random.nextInt(m) : 0;
            int day = random.nextInt(4) == 0 ? upTo(12) : 0;
            lines.add("owns " + (char) ('a' + owner) + " " + (char) ('a' + m) + " " + (88 + upTo(12)) + " " + day + ";");
        }
        int periods = Math.min(12, members + upTo(6));
        int size = new int[] {9, 500, 5000, 99999}[random.nextInt(4)];
        for (int k = 0; k < periods; k++) {
            int late = k / members;
            int first = late * 20 + upTo(8);
            int last = first + upTo(11);
            boolean loss = random.nextInt(5) == 0 ? random.nextBoolean() : k % 2 == late % 2;
            lines.add("period " + (char) ('a' + k % members) + " " + first + " " + last + " " + (loss ? "-" : "")
                + (1 + upTo(size - 1)) + ";");
        }
        setting(lines, "gate", 60 + upTo(30), 2);
        setting(lines, "price", upTo(2), 5);
        setting(lines, "carry", 1, 3);
        setting(lines, "seed", upTo(99999), 2);
        java.util.Collections.shuffle(lines, random);
        lines.forEach(text::append);
        return text.toString();
    }

    private void setting(List<String> lines, String word, int value, int outOfSix) {
        if (random.nextInt(6) < outOfSix) {
            lines.add(word + " " + value + ";");
        }
    }

    /** Tokens in no order, some that are none. */
    private String soup() {
        String[] pieces = {"member", "owns", "period", "gate", "price", "carry", "seed", ";", ";", "a", "b", "abcdef",
            "abcdefg", "members", "0", "7", "99", "100", "999", "1000", "-5", "-", "--1", "- 1", "A", "\u00e9", "1a", "\t"};
        StringBuilder text = new StringBuilder();
        int n = upTo(12);
        for (int k = 0; k < n; k++) {
            text.append(pieces[random.nextInt(pieces.length)]).append(random.nextInt(6) == 0 ? "" : " ");
        }
        return text.toString();
    }

    private String spoil(String text) {
        StringBuilder spoilt = new StringBuilder(text);
        String signs = "abz09-; \nA\u00ff";
        int n = 1 + upTo(1);
        for (int k = 0; k < n && spoilt.length() > 0; k++) {
            int at = random.nextInt(spoilt.length());
            switch (random.nextInt(4)) {
                case 0 -> spoilt.deleteCharAt(at);
                case 1 -> spoilt.insert(at, signs.charAt(random.nextInt(signs.length())));
                case 2 -> spoilt.setLength(at);
                default -> spoilt.setCharAt(at, signs.charAt(random.nextInt(signs.length())));
            }
        }
        return spoilt.toString();
    }

    // ---- calls ----

    private void ask(String face) {
        String[] words = face.split(" ");
        String kinds = words.length > 1 ? words[1] : "";
        Object[] args = new Object[kinds.length()];
        for (int k = 0; k < args.length; k++) {
            args[k] = random.nextInt(120) == 0 ? extreme() : draw(kinds.charAt(k));
        }
        String call = words[0] + Arrays.toString(args);
        ASKED.merge(words[0], 1, Integer::sum);
        compareTexts(call, answer(DESK.get(words[0]), desk, args), answer(PLAIN.get(words[0]), plain, args));
    }

    private int extreme() {
        int[] all = {Integer.MIN_VALUE, Integer.MAX_VALUE, -1, -2, 0, 100000, -100000, 1 << 30, 12, 8, 1000, 255};
        return all[random.nextInt(all.length)];
    }

    private int draw(char kind) {
        int members = plain.s.members.size();
        int periods = plain.s.periods.size();
        switch (kind) {
            case 'M': return random.nextInt(25) == 0 ? upTo(10) - 1 : members == 0 ? 0 : random.nextInt(members);
            case 'P': return random.nextInt(25) == 0 ? upTo(14) - 1 : periods == 0 ? 0 : random.nextInt(periods);
            case 'I': return signed(-1);
            case 'J': return signed(1);
            case 'D': return random.nextInt(25) == 0 ? upTo(1003) - 2 : random.nextBoolean() ? upTo(999) : upTo(50);
            case 'E': return random.nextInt(25) == 0 ? upTo(103) - 1 : random.nextBoolean() ? 100 - upTo(30) : upTo(100);
            case 'W': return upTo(random.nextInt(8) == 0 ? 8 : 4) - (random.nextInt(8) == 0 ? 1 : 0);
            case 'O': return upTo(12) - 1;
            case 'N': return random.nextInt(20) == 0 ? 99999 + upTo(1) : random.nextInt(8) == 0 ? upTo(99999)
                : random.nextBoolean() ? upTo(300) : upTo(12);
            case '1': return 1 + upTo(2);
            case 'R': return (random.nextBoolean() ? 1 : -1) * (random.nextBoolean() ? upTo(1000) : upTo(99999));
            case 'C': return upTo(plain.s.claims.size() + 1) - 1;
            case 'K': return upTo(9) - 1;
            case 'B': return upTo(3) - 1;
            case 'G': return upTo(102) - 1;
            case 'T': return random.nextInt(20) == 0 ? 9999999 + upTo(1) : random.nextBoolean() ? upTo(300) : upTo(200000);
            case 'F': return random.nextInt(20) == 0 ? upTo(1003) - 2 : upTo(60);
            case 'S': return random.nextInt(4) == 0 ? -1 : random.nextInt(20) == 0 ? -2 : random.nextInt() & 0x7FFFFFFF;
            case 'H': return upTo(62);
            default: return random.nextInt(8) == 0 ? random.nextInt() : (1 + upTo(8)) << 25;
        }
    }

    /** Mostly a PERIOD of the wanted sign, so that LINKS come up often. */
    private int signed(int sign) {
        List<Integer> all = new ArrayList<>();
        for (int p = 0; p < plain.s.periods.size(); p++) {
            if (Integer.signum(plain.s.periods.get(p).result()) == sign) {
                all.add(p);
            }
        }
        return all.isEmpty() || random.nextInt(12) == 0 ? draw('P') : all.get(random.nextInt(all.size()));
    }

    private static String answer(Method method, Object on, Object[] args) {
        try {
            return String.valueOf(method.invoke(on, args));
        } catch (InvocationTargetException e) {
            return e.getCause().getClass().getName();
        } catch (IllegalAccessException e) {
            return "no access";
        }
    }

    private void compare(String call, long got, long want) {
        compareTexts(call, Long.toString(got), Long.toString(want));
    }

    private void compareTexts(String call, String got, String want) {
        if (!got.equals(want)) {
            wrong++;
            System.out.println("run " + run + ": " + call + " answered " + got + ", due is " + want);
        }
    }
}
