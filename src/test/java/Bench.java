import java.io.IOException;
import java.lang.reflect.InvocationTargetException;
import java.lang.reflect.Method;
import java.nio.charset.StandardCharsets;
import java.nio.file.Files;
import java.nio.file.Path;
import java.util.ArrayList;
import java.util.Arrays;
import java.util.HashMap;
import java.util.List;
import java.util.Map;
import java.util.function.Consumer;
import java.util.function.ToLongFunction;

/**
 * What the tests by sentence share: sentences quoted from the document, answers that are due, desks and their twins.
 *
 * A quote must stand in the document word by word, and a test ends well only if every word of the sections it took
 * on stands in a quote: so no sentence is without a test.
 */
final class Bench {
    static final int TERMS = 0;
    static final int PROMISES = 50;
    /* What throwing stands for, as calls answer numbers here. */
    static final long THROWS_INDEX = -71;
    static final long THROWS_NO_ELEMENT = -72;

    /* Asks and rates as one reads them; a controls all three others from day 0 on. */
    static final String FOUR = "member a 10 0;member b 20 0;member c 50 40;member d 0 80;"
        + "owns a b 80 0;owns a c 100 0;owns a d 100 0;";
    /* Two LOSSES (of a and b), two PROFITS (of c and d), all on the same ten days. */
    static final String SQUARE = FOUR + "period a 0 9 -100;period b 0 9 -100;period c 0 9 100;period d 0 9 100;";

    private static final Map<String, Method> FACE = face();

    private final String[] sections = new String[PROMISES + 1];
    private final boolean[][] quoted = new boolean[PROMISES + 1][];
    private String sentence = "";
    private int sentences = 0;
    private int answers = 0;
    private int wrong = 0;

    Bench() {
        String document = read();
        for (int k = 0; k <= PROMISES; k++) {
            sections[k] = section(document, k);
            quoted[k] = new boolean[sections[k].length()];
        }
    }

    // ---- the document ----

    private static String read() {
        try {
            return Files.readString(Path.of("../shared/DOC.md"), StandardCharsets.UTF_8);
        } catch (IOException e) {
            throw new IllegalStateException("../shared/DOC.md cannot be read", e);
        }
    }

    /** The words of a section in one row; of a promise what stands behind the method's face. */
    private static String section(String document, int k) {
        String from = k == TERMS ? "## Terms" : "## Promise " + k + ":";
        int begin = document.indexOf('\n', document.indexOf(from));
        int end = document.indexOf("\n## ", begin);
        String text = document.substring(begin, end).replace("```text", " ").replace("```", " ");
        text = text.replaceAll("==== [0-9]\\.", " ").replaceAll("\\s+", " ").trim();
        return k == TERMS ? text : text.substring(text.indexOf("`:") + 2).trim();
    }

    /** From here on the sentence of a promise (or of the Terms) is under test. */
    void says(int promise, String quote) {
        sentence = (promise == TERMS ? "Terms" : "Promise " + promise) + ", \"" + quote + "\"";
        sentences++;
        int at = sections[promise].indexOf(quote);
        if (at < 0) {
            fail("the document does not say so");
        }
        for (; at >= 0; at = sections[promise].indexOf(quote, at + 1)) {
            Arrays.fill(quoted[promise], at, at + quote.length(), true);
        }
    }

    /** From here on a promise as a whole is under test. */
    void takes(int promise) {
        sentence = "Promise " + promise;
    }

    private void findUnquoted(int promise) {
        String text = sections[promise];
        for (int at = 0; at < text.length(); at++) {
            if (Character.isLetterOrDigit(text.charAt(at)) && !quoted[promise][at]) {
                int end = at;
                while (end < text.length() && !quoted[promise][end]) {
                    end++;
                }
                sentence = promise == TERMS ? "Terms" : "Promise " + promise;
                fail("no test quotes: " + text.substring(at, end));
                at = end;
            }
        }
    }

    /** Ends the run: with what failed, and with what no test has quoted of the sections first .. last. */
    void end(int first, int last) {
        for (int k = first; k <= last; k++) {
            findUnquoted(k);
        }
        System.out.println(sentences + " sentences, " + answers + " answers" + (wrong == 0 ? "" : ", wrong: " + wrong));
        if (wrong != 0) {
            System.exit(1);
        }
    }

    // ---- answers ----

    private void fail(String what) {
        wrong++;
        System.out.println(sentence + ": " + what);
    }

    void due(String what, long got, long want) {
        answers++;
        if (got != want) {
            fail(what + " answered " + got + ", due is " + want);
        }
    }

    void due(String what, boolean got, boolean want) {
        due(what, got ? 1 : 0, want ? 1 : 0);
    }

    private static Map<String, Method> face() {
        Map<String, Method> all = new HashMap<>();
        for (Method m : ReliefDesk.class.getMethods()) {
            all.put(m.getName(), m);
        }
        return all;
    }

    /** Any call of the face by its name; a boolean is 1 or 0. */
    static long call(ReliefDesk x, String name, int... args) {
        Object[] boxed = Arrays.stream(args).boxed().toArray();
        try {
            Object answer = FACE.get(name).invoke(x, boxed);
            return answer instanceof Boolean b ? (b ? 1 : 0) : ((Number) answer).longValue();
        } catch (InvocationTargetException e) {
            return thrown(name, e.getCause());
        } catch (IllegalAccessException e) {
            throw new IllegalStateException(name, e);
        }
    }

    private static long thrown(String name, Throwable cause) {
        if (cause.getClass() == IndexOutOfBoundsException.class) {
            return THROWS_INDEX;
        }
        if (cause.getClass() == java.util.NoSuchElementException.class) {
            return THROWS_NO_ELEMENT;
        }
        throw new IllegalStateException(name + " threw", cause);
    }

    /** The answers of a call for each of what 0 on. */
    void dueEach(ReliefDesk x, String name, int[] args, long... wants) {
        int[] all = Arrays.copyOf(args, args.length + 1);
        for (int what = 0; what < wants.length; what++) {
            all[args.length] = what;
            due(name + Arrays.toString(all), call(x, name, all), wants[what]);
        }
    }

    /**
     * One argument of a call, from the last value that is allowed to the first that is not, on both sides:
     * low and high are allowed, what lies beyond is refused; so are the least and the greatest number.
     */
    void limits(ReliefDesk x, String name, int[] args, int which, int low, int high, long refusal) {
        for (int value : new int[] {low, high}) {
            int[] all = with(args, which, value);
            answers++;
            if (call(x, name, all) == refusal) {
                fail(name + Arrays.toString(all) + " is refused");
            }
        }
        List<Integer> beyond = new ArrayList<>(List.of(low - 1, Integer.MIN_VALUE));
        if (high < Integer.MAX_VALUE) {
            beyond.addAll(List.of(high + 1, Integer.MAX_VALUE));
        }
        for (int value : beyond) {
            int[] all = with(args, which, value);
            due(name + Arrays.toString(all), call(x, name, all), refusal);
        }
    }

    private static int[] with(int[] args, int which, int value) {
        int[] all = args.clone();
        all[which] = value;
        return all;
    }

    static int[] args(int... numbers) {
        return numbers;
    }

    // ---- desks ----

    /** Feeds a text with blanks behind it up to a full twenty: what the last feed answered. */
    static int feedAll(ReliefDesk x, String text) {
        byte[] bytes = text.getBytes(StandardCharsets.ISO_8859_1);
        int[] n = new int[(bytes.length + 19) / 20 * 5];
        for (int k = 0; k < n.length * 4; k++) {
            n[k / 4] = n[k / 4] << 8 | (k < bytes.length ? bytes[k] & 255 : 32);
        }
        int answer = x.count(9);
        for (int k = 0; k < n.length; k += 5) {
            answer = x.feed(n[k], n[k + 1], n[k + 2], n[k + 3], n[k + 4]);
        }
        return answer;
    }

    static int tell(ReliefDesk x, String text) {
        feedAll(x, text);
        return x.text(text.length());
    }

    ReliefDesk desk(String text) {
        ReliefDesk x = new ReliefDesk();
        if (tell(x, text) < 0) {
            fail("a fault " + x.fault(0) + " at " + x.fault(1) + " in " + text);
        }
        return x;
    }

    /** A TEXT with a FAULT (0: without one) at a place. */
    void fault(String text, int fault, int place) {
        ReliefDesk x = new ReliefDesk();
        int answer = tell(x, text);
        due("text of <" + text + ">", answer < 0 ? answer : 0, fault == 0 ? 0 : -1);
        due("fault(0) of <" + text + ">", x.fault(0), fault);
        due("fault(1) of <" + text + ">", x.fault(1), place);
    }

    void fine(String text) {
        fault(text, 0, -1);
    }

    // ---- twins ----

    /** A call that is refused: what it answers, and that all else is as on a twin that was not asked. */
    void refused(String what, Consumer<ReliefDesk> made, ToLongFunction<ReliefDesk> call, long answer) {
        ReliefDesk asked = new ReliefDesk();
        ReliefDesk twin = new ReliefDesk();
        made.accept(asked);
        made.accept(twin);
        due(what, call.applyAsLong(asked), answer);
        same(what, asked, twin);
    }

    /** Two desks answer alike, now, one undone after another, and back at their images. */
    void same(String what, ReliefDesk asked, ReliefDesk twin) {
        List<String> got = probe(asked);
        List<String> want = probe(twin);
        answers++;
        for (int k = 0; k < Math.min(got.size(), want.size()); k++) {
            if (!got.get(k).equals(want.get(k))) {
                fail(what + ": not all else stays: " + got.get(k) + ", on the twin " + want.get(k));
                return;
            }
        }
        if (got.size() != want.size()) {
            fail(what + ": not all else stays");
        }
    }

    private static List<String> probe(ReliefDesk x) {
        List<String> all = new ArrayList<>();
        look(x, all);
        for (int k = 0; k <= 20; k++) {
            note(x, all, "undo");
            note(x, all, "count", 2);
            note(x, all, "count", 3);
            note(x, all, "solved", 0);
        }
        note(x, all, "back");
        glance(x, all);
        return all;
    }

    /* Short, so that even with a full desk all stays within the 512 calls of an object. */
    private static void glance(ReliefDesk x, List<String> all) {
        note(x, all, "count", 2);
        note(x, all, "count", 3);
        note(x, all, "count", 8);
        note(x, all, "solved", 0);
        for (int p = 0; p < x.count(1); p++) {
            note(x, all, "period", p, 3);
        }
        for (int k = 0; k < x.count(3); k++) {
            note(x, all, "claimed", k, 2);
        }
    }

    private static void look(ReliefDesk x, List<String> all) {
        for (int what = 0; what <= 10; what++) {
            note(x, all, "count", what);
        }
        note(x, all, "fault", 0);
        note(x, all, "fault", 1);
        int members = x.count(0);
        int periods = x.count(1);
        for (int a = 0; a < members; a++) {
            note(x, all, "balance", a);
            for (int b = a + 1; b < members; b++) {
                note(x, all, "percent", a, b, 4);
                note(x, all, "percent", a, b, 999);
            }
        }
        for (int p = 0; p < periods; p++) {
            for (int what = 1; what <= 4; what++) {
                note(x, all, "period", p, what);
            }
            note(x, all, "left", p);
        }
        for (int k = 0; k < x.count(3); k++) {
            for (int what = 0; what <= 2; what++) {
                note(x, all, "claimed", k, what);
            }
        }
        for (int what = 0; what <= 3; what++) {
            note(x, all, "solved", what);
        }
    }

    private static void note(ReliefDesk x, List<String> all, String name, int... args) {
        all.add(name + Arrays.toString(args) + " = " + call(x, name, args));
    }
}
