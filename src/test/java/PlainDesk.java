import java.nio.charset.StandardCharsets;
import java.util.ArrayDeque;
import java.util.ArrayList;
import java.util.Arrays;
import java.util.Collections;
import java.util.Deque;
import java.util.HashMap;
import java.util.List;
import java.util.Map;
import java.util.NoSuchElementException;
import java.util.TreeSet;

/**
 * The document written down a second time, as plainly as can be and without regard to speed:
 * day by day, every ROUTE tried, nothing kept between two questions. Tests hold ReliefDesk against it.
 */
final class PlainDesk {
    static final List<String> LANGUAGE = List.of("member", "owns", "period", "gate", "price", "carry", "seed");

    record Member(String name, int asks, int rate) { }

    record Own(int a, int b, int percent, int day) { }

    record Period(int member, int first, int last, int result) {
        int days() {
            return last - first + 1;
        }

        int size() {
            return Math.abs(result);
        }

        Period withResult(int v) {
            return new Period(member, first, last, v);
        }

        Period withFirst(int d) {
            return new Period(member, d, last, result);
        }
    }

    record Claim(int i, int j, int n) { }

    /** All that can change but the TAPE; copied whole for UNDO and IMAGES. */
    static final class State {
        List<Member> members = new ArrayList<>();
        List<Own> owns = new ArrayList<>();
        List<Period> periods = new ArrayList<>();
        List<Claim> claims = new ArrayList<>();
        int gate = 75;
        int price = 0;
        int carry = 0;
        int seed = 0;

        State copy() {
            State s = new State();
            s.members = new ArrayList<>(members);
            s.owns = new ArrayList<>(owns);
            s.periods = new ArrayList<>(periods);
            s.claims = new ArrayList<>(claims);
            s.gate = gate;
            s.price = price;
            s.carry = carry;
            s.seed = seed;
            return s;
        }

        State withoutClaims() {
            State s = copy();
            s.claims.clear();
            return s;
        }
    }

    State s = new State();
    final Deque<State> past = new ArrayDeque<>();
    State image = null;
    byte[] tape = new byte[0];
    int fault = 0;
    int place = -1;

    // ---- the TEXT ----

    int feed(int... numbers) {
        if (tape.length + 20 > 700) {
            return -1;
        }
        int old = tape.length;
        tape = Arrays.copyOf(tape, old + 20);
        for (int k = 0; k < 20; k++) {
            tape[old + k] = (byte) (numbers[k / 4] >>> (8 * (3 - k % 4)));
        }
        return tape.length;
    }

    int text(int n) {
        if (n < 0 || n > tape.length) {
            return -2;
        }
        String text = new String(tape, 0, n, StandardCharsets.ISO_8859_1);
        tape = new byte[0];
        fault = 0;
        place = -1;
        State told = new State();
        int lines = 0;
        List<String[]> tokens = tokens(text);
        try {
            int at = 0;
            while (at < tokens.size() - 1) {
                at = line(tokens, at, told);
                lines++;
            }
        } catch (Wrong w) {
            fault = w.fault;
            place = w.place;
            return -1;
        }
        s = told;
        past.clear();
        image = null;
        return lines;
    }

    static final class Wrong extends RuntimeException {
        private static final long serialVersionUID = 1L;
        final int fault;
        final int place;

        Wrong(int fault, int place) {
            this.fault = fault;
            this.place = place;
        }
    }

    /** Tokens as pairs of text and place; the last one is empty and stands at the length. */
    static List<String[]> tokens(String text) {
        List<String[]> all = new ArrayList<>();
        java.util.regex.Matcher m = java.util.regex.Pattern.compile("[a-z]+|-?[0-9]+|[^ \\n]", java.util.regex.Pattern.DOTALL).matcher(text);
        while (m.find()) {
            all.add(new String[] {m.group(), Integer.toString(m.start())});
        }
        all.add(new String[] {"", Integer.toString(text.length())});
        return all;
    }

    private int line(List<String[]> tokens, int at, State told) {
        String word = tokens.get(at)[0];
        int wordPlace = Integer.parseInt(tokens.get(at)[1]);
        if (!LANGUAGE.contains(word)) {
            throw new Wrong(1, wordPlace);
        }
        int k = at + 1;
        switch (word) {
            case "member" -> {
                if (told.members.size() == 8) {
                    throw new Wrong(2, wordPlace);
                }
                String name = name(tokens.get(k));
                if (told.members.stream().anyMatch(x -> x.name.equals(name))) {
                    throw new Wrong(3, Integer.parseInt(tokens.get(k)[1]));
                }
                int asks = number(tokens.get(k + 1), 0, 99, false);
                int rate = number(tokens.get(k + 2), 0, 99, false);
                told.members.add(new Member(name, asks, rate));
                k += 3;
            }
            case "owns" -> {
                if (told.owns.size() == 16) {
                    throw new Wrong(2, wordPlace);
                }
                int a = known(tokens.get(k), told);
                int b = known(tokens.get(k + 1), told);
                if (b <= a) {
                    throw new Wrong(2, Integer.parseInt(tokens.get(k + 1)[1]));
                }
                int percent = number(tokens.get(k + 2), 0, 100, false);
                int day = number(tokens.get(k + 3), 0, 999, false);
                told.owns.add(new Own(a, b, percent, day));
                k += 4;
            }
            case "period" -> {
                if (told.periods.size() == 12) {
                    throw new Wrong(2, wordPlace);
                }
                int m = known(tokens.get(k), told);
                int first = number(tokens.get(k + 1), 0, 999, false);
                int last = number(tokens.get(k + 2), 0, 999, false);
                int lastPlace = Integer.parseInt(tokens.get(k + 2)[1]);
                if (last < first) {
                    throw new Wrong(2, lastPlace);
                }
                for (Period p : told.periods) {
                    for (int d = first; d <= last; d++) {
                        if (p.member == m && p.first <= d && d <= p.last) {
                            throw new Wrong(3, lastPlace);
                        }
                    }
                }
                told.periods.add(new Period(m, first, last, number(tokens.get(k + 3), -99999, 99999, true)));
                k += 4;
            }
            default -> {
                for (int e = 0; e < at; e++) {
                    if (tokens.get(e)[0].equals(word)) {
                        throw new Wrong(3, wordPlace);
                    }
                }
                switch (word) {
                    case "gate" -> told.gate = number(tokens.get(k), 1, 100, false);
                    case "price" -> told.price = number(tokens.get(k), 0, 2, false);
                    case "carry" -> told.carry = number(tokens.get(k), 0, 1, false);
                    default -> told.seed = number(tokens.get(k), 0, 99999, false);
                }
                k++;
            }
        }
        if (!tokens.get(k)[0].equals(";")) {
            throw new Wrong(1, Integer.parseInt(tokens.get(k)[1]));
        }
        return k + 1;
    }

    private static String name(String[] token) {
        if (!token[0].matches("[a-z]{1,6}") || LANGUAGE.contains(token[0])) {
            throw new Wrong(1, Integer.parseInt(token[1]));
        }
        return token[0];
    }

    private static int known(String[] token, State told) {
        String name = name(token);
        for (int m = 0; m < told.members.size(); m++) {
            if (told.members.get(m).name.equals(name)) {
                return m;
            }
        }
        throw new Wrong(4, Integer.parseInt(token[1]));
    }

    private static int number(String[] token, int low, int high, boolean signed) {
        if (!token[0].matches(signed ? "-?[0-9]+" : "[0-9]+")) {
            throw new Wrong(1, Integer.parseInt(token[1]));
        }
        java.math.BigInteger v = new java.math.BigInteger(token[0]);
        if (v.compareTo(java.math.BigInteger.valueOf(low)) < 0 || v.compareTo(java.math.BigInteger.valueOf(high)) > 0) {
            throw new Wrong(2, Integer.parseInt(token[1]));
        }
        return v.intValue();
    }

    int fault(int what) {
        return what == 0 ? fault : what == 1 ? place : -1;
    }

    int named(int letters) {
        for (int m = 0; m < s.members.size(); m++) {
            long code = 0;
            String name = s.members.get(m).name;
            for (int k = 0; k < 6; k++) {
                code = code * 32 + (k < name.length() ? name.charAt(k) - 96 : 0);
            }
            if (code == letters) {
                return m;
            }
        }
        return -1;
    }

    int member(int m, int what) {
        if (!isMember(m)) {
            throw new IndexOutOfBoundsException();
        }
        if (what == 0) {
            return s.members.get(m).asks;
        }
        if (what == 1) {
            return s.members.get(m).rate;
        }
        if (what != 2) {
            throw new NoSuchElementException();
        }
        int bits = 0;
        for (int p = 0; p < s.periods.size(); p++) {
            bits |= s.periods.get(p).member == m ? 1 << p : 0;
        }
        return bits;
    }

    int period(int p, int what) {
        if (!isPeriod(p) || what < 0 || what > 5) {
            return -999999;
        }
        Period x = s.periods.get(p);
        int taken = taken(s, p);
        return new int[] {x.member, x.first, x.last, x.result, x.size() - taken, taken}[what];
    }

    // ---- parts ----

    static int percentOn(State s, int a, int b, int day) {
        int best = -1;
        int percent = 0;
        for (Own o : s.owns) {
            if (o.a == a && o.b == b && o.day <= day && o.day >= best) {
                best = o.day;
                percent = o.percent;
            }
        }
        return percent;
    }

    static float shareOn(State s, int a, int b, int day) {
        if (a == b) {
            return 1f;
        }
        if (a > b) {
            return 0f;
        }
        float sum = 0f;
        for (int c = a; c <= b - 1; c++) {
            float part = (float) percentOn(s, c, b, day) / 100f;
            float more = shareOn(s, a, c, day) * part;
            sum = sum + more;
        }
        return sum;
    }

    static boolean controlsOn(State s, int a, int b, int day) {
        return a < b && shareOn(s, a, b, day) * 100f >= s.gate;
    }

    static boolean relatedOn(State s, int a, int b, int day) {
        if (a == b) {
            return false;
        }
        boolean yes = controlsOn(s, a, b, day) || controlsOn(s, b, a, day);
        for (int c = 0; c < s.members.size(); c++) {
            yes |= controlsOn(s, c, a, day) && controlsOn(s, c, b, day);
        }
        return yes;
    }

    private static final Map<List<Object>, boolean[][][]> MEMO = new HashMap<>();

    /** On each DAY, whether two are RELATED: found once for the same owns and GATE, as it takes long. */
    static boolean[] relatedDays(State s, int a, int b) {
        if (MEMO.size() > 500) {
            MEMO.clear();
        }
        List<Object> key = List.of(List.copyOf(s.owns), s.gate, s.members.size());
        return MEMO.computeIfAbsent(key, k -> allRelatedDays(s))[a][b];
    }

    /** DAYS on which nothing is told anew are as the day ahead. */
    private static boolean[][][] allRelatedDays(State s) {
        int n = s.members.size();
        boolean[][][] all = new boolean[n][n][1000];
        for (int d = 0; d < 1000; d++) {
            int day = d;
            boolean anew = d == 0 || s.owns.stream().anyMatch(o -> o.day == day);
            for (int a = 0; a < n; a++) {
                for (int b = 0; b < n; b++) {
                    all[a][b][d] = anew ? relatedOn(s, a, b, d) : all[a][b][d - 1];
                }
            }
        }
        return all;
    }

    int percent(int a, int b, int day) {
        return a == b || !isMember(a) || !isMember(b) || !isDay(day) ? -1 : percentOn(s, a, b, day);
    }

    int share(int a, int b, int day) {
        return !isMember(a) || !isMember(b) || !isDay(day) ? -1 : Float.floatToIntBits(shareOn(s, a, b, day));
    }

    int parts(int a, int b, int day) {
        return !isMember(a) || !isMember(b) || !isDay(day) ? -1
            : (int) Math.floor((double) shareOn(s, a, b, day) * 10000 + 0.5);
    }

    int controls(int a, int b, int day) {
        return a == b || !isMember(a) || !isMember(b) || !isDay(day) ? -1 : controlsOn(s, a, b, day) ? 1 : 0;
    }

    int related(int m, int day) {
        if (!isMember(m) || !isDay(day)) {
            return -1;
        }
        int bits = 0;
        for (int x = 0; x < s.members.size(); x++) {
            bits |= relatedOn(s, m, x, day) ? 1 << x : 0;
        }
        return bits;
    }

    int groups(int day) {
        if (!isDay(day)) {
            return -1;
        }
        int n = s.members.size();
        int[] label = new int[n];
        for (int m = 0; m < n; m++) {
            label[m] = m;
        }
        for (int a = 0; a < n; a++) {
            for (int b = 0; b < n; b++) {
                if (relatedOn(s, a, b, day)) {
                    int from = label[a];
                    int to = label[b];
                    for (int m = 0; m < n; m++) {
                        label[m] = label[m] == from ? to : label[m];
                    }
                }
            }
        }
        return (int) Arrays.stream(label).distinct().count();
    }

    int days(int a, int b, int what) {
        if (a == b || !isMember(a) || !isMember(b) || what < 0 || what > 2) {
            return -1;
        }
        TreeSet<Integer> all = new TreeSet<>();
        boolean[] days = relatedDays(s, a, b);
        for (int d = 0; d < 1000; d++) {
            if (days[d]) {
                all.add(d);
            }
        }
        if (what == 2) {
            return all.size();
        }
        return all.isEmpty() ? -2 : what == 0 ? all.first() : all.last();
    }

    int steps(int a, int b, int day) {
        if (!isMember(a) || !isMember(b) || !isDay(day)) {
            return -1;
        }
        int fewest = fewestSteps(a, b, day);
        return fewest > 100 ? -2 : fewest;
    }

    private int fewestSteps(int a, int b, int day) {
        if (a == b) {
            return 0;
        }
        int best = 1000;
        for (int c = a + 1; c < s.members.size(); c++) {
            if (percentOn(s, a, c, day) > 0) {
                best = Math.min(best, 1 + fewestSteps(c, b, day));
            }
        }
        return best;
    }

    // ---- LINKS ----

    static int sharedOf(State s, int i, int j) {
        Period x = s.periods.get(i);
        Period y = s.periods.get(j);
        boolean[] days = relatedDays(s, x.member, y.member);
        int n = 0;
        for (int d = 0; d < 1000; d++) {
            n += d >= x.first && d <= x.last && d >= y.first && d <= y.last && days[d] ? 1 : 0;
        }
        return n;
    }

    static boolean isLink(State s, int i, int j) {
        if (i < 0 || j < 0 || i >= s.periods.size() || j >= s.periods.size()) {
            return false;
        }
        Period x = s.periods.get(i);
        Period y = s.periods.get(j);
        return x.result < 0 && y.result > 0 && (x.member != y.member || s.carry == 1 && y.first > x.last);
    }

    static boolean isCarry(State s, int i, int j) {
        return s.periods.get(i).member == s.periods.get(j).member;
    }

    static int boundOf(State s, int i, int j) {
        Period x = s.periods.get(i);
        Period y = s.periods.get(j);
        if (isCarry(s, i, j)) {
            return Math.min(x.size(), y.size());
        }
        long shared = sharedOf(s, i, j);
        return (int) Math.min(x.size() * shared / x.days(), y.size() * shared / y.days());
    }

    static int priceOf(State s, int i, int j) {
        if (isCarry(s, i, j)) {
            return 0;
        }
        int asks = s.members.get(s.periods.get(i).member).asks;
        int rate = s.members.get(s.periods.get(j).member).rate;
        return s.price == 0 ? asks : s.price == 1 ? asks + 99 - rate : Math.abs(asks - rate);
    }

    static int taken(State s, int p) {
        return s.claims.stream().filter(c -> c.i == p || c.j == p).mapToInt(Claim::n).sum();
    }

    static int takenOn(State s, int i, int j) {
        return s.claims.stream().filter(c -> c.i == i && c.j == j).mapToInt(Claim::n).sum();
    }

    static int openOf(State s, int p) {
        return s.periods.get(p).size() - taken(s, p);
    }

    int shared(int i, int j) {
        return !isPeriod(i) || !isPeriod(j) || isCarry(s, i, j) ? -1 : sharedOf(s, i, j);
    }

    int bound(int i, int j) {
        return isLink(s, i, j) ? boundOf(s, i, j) : -1;
    }

    int room(int i, int j) {
        return isLink(s, i, j) ? boundOf(s, i, j) - takenOn(s, i, j) : -1;
    }

    int price(int i, int j) {
        return isLink(s, i, j) ? priceOf(s, i, j) : -1;
    }

    // ---- CLAIMS ----

    private void remember() {
        past.addLast(s.copy());
        if (past.size() > 20) {
            past.removeFirst();
        }
    }

    static int claimCode(State s, int i, int j, int n) {
        if (!isLink(s, i, j) || n < 1 || n > 99999) {
            return -1;
        }
        if (s.claims.size() == 30) {
            return -2;
        }
        return n > boundOf(s, i, j) - takenOn(s, i, j) || n > openOf(s, i) || n > openOf(s, j) ? -3 : s.claims.size();
    }

    int claim(int i, int j, int n) {
        int code = claimCode(s, i, j, n);
        if (code >= 0) {
            remember();
            s.claims.add(new Claim(i, j, n));
        }
        return code;
    }

    int withdraw(int k) {
        if (k < 0 || k >= s.claims.size()) {
            return -1;
        }
        remember();
        return s.claims.remove(k).n;
    }

    static int paid(State s, int i, int j, int n) {
        return isCarry(s, i, j) ? 0 : n * s.members.get(s.periods.get(i).member).asks / 100;
    }

    int claimed(int k, int what) {
        if (k < 0 || k >= s.claims.size() || what < 0 || what > 3) {
            return -1;
        }
        Claim c = s.claims.get(k);
        return new int[] {c.i, c.j, c.n, paid(s, c.i, c.j, c.n)}[what];
    }

    int claimAll() {
        Solution x = new Solution(s);
        State before = s.copy();
        int came = 0;
        for (int i = 0; i < s.periods.size(); i++) {
            for (int j = 0; j < s.periods.size(); j++) {
                if (x.relief[i][j] > 0 && s.claims.size() < 30) {
                    s.claims.add(new Claim(i, j, x.relief[i][j]));
                    came++;
                }
            }
        }
        if (came > 0) {
            State after = s;
            s = before;
            remember();
            s = after;
        }
        return came;
    }

    boolean result(int p, int v) {
        if (!isPeriod(p) || v < -99999 || v > 99999 || s.claims.stream().anyMatch(c -> c.i == p || c.j == p)) {
            return false;
        }
        remember();
        s.periods.set(p, s.periods.get(p).withResult(v));
        return true;
    }

    int own(int a, int b, int percent, int day) {
        if (!isMember(a) || !isMember(b) || a >= b || percent < 0 || percent > 100 || !isDay(day)) {
            return -1;
        }
        if (s.owns.size() == 24) {
            return -2;
        }
        State next = s.copy();
        next.owns.add(new Own(a, b, percent, day));
        for (Claim c : next.claims) {
            if (takenOn(next, c.i, c.j) > boundOf(next, c.i, c.j)) {
                return -3;
            }
        }
        remember();
        s = next;
        return s.owns.size();
    }

    // ---- RELIEF, every ROUTE tried ----

    static final class Solution {
        final int n;
        final boolean[] loss;
        final boolean[] profit;
        final int[] left;
        final int[][] room;
        final int[][] price;
        final int[][] relief;
        List<Integer> firstRoute = List.of();
        int routes = 0;
        private List<Integer> best;
        private int bestCost;

        Solution(State s) {
            this(s, -1, -1, 0);
        }

        Solution(State s, int changedLoss, int changedProfit, int more) {
            n = s.periods.size();
            loss = new boolean[n];
            profit = new boolean[n];
            left = new int[n];
            room = new int[n][n];
            price = new int[n][n];
            relief = new int[n][n];
            for (int i = 0; i < n; i++) {
                loss[i] = s.periods.get(i).result < 0;
                profit[i] = s.periods.get(i).result > 0;
                left[i] = openOf(s, i);
                for (int j = 0; j < n; j++) {
                    if (isLink(s, i, j)) {
                        int change = i == changedLoss && j == changedProfit ? more : 0;
                        room[i][j] = Math.max(0, boundOf(s, i, j) - takenOn(s, i, j) + change);
                        price[i][j] = priceOf(s, i, j);
                    }
                }
            }
            while (nextRoute()) {
                take();
            }
        }

        private boolean nextRoute() {
            best = null;
            for (int i = 0; i < n; i++) {
                if (loss[i] && left[i] > 0) {
                    List<Integer> path = new ArrayList<>();
                    path.add(i);
                    walk(path, 0);
                }
            }
            return best != null;
        }

        private void walk(List<Integer> path, int cost) {
            int here = path.get(path.size() - 1);
            if (profit[here] && left[here] > 0 && (best == null || isBefore(path, cost))) {
                best = new ArrayList<>(path);
                bestCost = cost;
            }
            for (int p = 0; p < n; p++) {
                if (!path.contains(p) && step(here, p) > 0) {
                    path.add(p);
                    walk(path, cost + (loss[here] ? price[here][p] : -price[p][here]));
                    path.remove(path.size() - 1);
                }
            }
        }

        private boolean isBefore(List<Integer> path, int cost) {
            if (cost != bestCost) {
                return cost < bestCost;
            }
            if (path.size() != best.size()) {
                return path.size() < best.size();
            }
            for (int k = 0; k < path.size(); k++) {
                if (!path.get(k).equals(best.get(k))) {
                    return path.get(k) < best.get(k);
                }
            }
            return false;
        }

        private int step(int from, int to) {
            return loss[from] ? room[from][to] - relief[from][to] : relief[to][from];
        }

        private void take() {
            int start = best.get(0);
            int end = best.get(best.size() - 1);
            int amount = Math.min(left[start], left[end]);
            for (int k = 0; k + 1 < best.size(); k++) {
                amount = Math.min(amount, step(best.get(k), best.get(k + 1)));
            }
            for (int k = 0; k + 1 < best.size(); k++) {
                int a = best.get(k);
                int b = best.get(k + 1);
                if (loss[a]) {
                    relief[a][b] += amount;
                } else {
                    relief[b][a] -= amount;
                }
            }
            left[start] -= amount;
            left[end] -= amount;
            if (routes == 0) {
                firstRoute = best;
            }
            routes++;
        }

        int total() {
            return Arrays.stream(relief).flatMapToInt(Arrays::stream).sum();
        }

        int reached() {
            int bits = 0;
            Deque<Integer> open = new ArrayDeque<>();
            for (int i = 0; i < n; i++) {
                if (loss[i] && left[i] > 0) {
                    open.add(i);
                    bits |= 1 << i;
                }
            }
            while (!open.isEmpty()) {
                int here = open.remove();
                for (int p = 0; p < n; p++) {
                    if ((bits >> p & 1) == 0 && step(here, p) > 0) {
                        bits |= 1 << p;
                        open.add(p);
                    }
                }
            }
            return bits;
        }
    }

    private Solution cached;
    private State cachedFor;

    /** The solution of what stands; kept as long as nothing that it comes from is another one. */
    private Solution now() {
        if (cached == null || !same(cachedFor, s)) {
            cached = new Solution(s);
            cachedFor = s.copy();
        }
        return cached;
    }

    private static boolean same(State a, State b) {
        return a.members.equals(b.members) && a.owns.equals(b.owns) && a.periods.equals(b.periods)
            && a.claims.equals(b.claims) && a.gate == b.gate && a.price == b.price && a.carry == b.carry;
    }

    int relief(int i, int j) {
        return isLink(s, i, j) ? now().relief[i][j] : -1;
    }

    long solved(int what) {
        Solution x = now();
        long cost = 0;
        int links = 0;
        for (int i = 0; i < x.n; i++) {
            for (int j = 0; j < x.n; j++) {
                cost += (long) x.relief[i][j] * x.price[i][j];
                links += x.relief[i][j] > 0 ? 1 : 0;
            }
        }
        return what == 0 ? x.total() : what == 1 ? cost : what == 2 ? x.routes : what == 3 ? links : -1;
    }

    int reached() {
        return now().reached();
    }

    int left(int p) {
        return isPeriod(p) ? now().left[p] : -1;
    }

    int route(int k) {
        List<Integer> first = now().firstRoute;
        return k < 0 ? -1 : k >= first.size() ? -2 : first.get(k);
    }

    int dearest() {
        Solution x = now();
        int best = -2;
        int price = -1;
        for (int i = 0; i < x.n; i++) {
            for (int j = 0; j < x.n; j++) {
                if (x.relief[i][j] > 0 && x.price[i][j] > price) {
                    price = x.price[i][j];
                    best = 16 * i + j;
                }
            }
        }
        return best;
    }

    int carried(int what) {
        Solution x = now();
        int[] sums = new int[4];
        for (int i = 0; i < x.n; i++) {
            for (int j = 0; j < x.n; j++) {
                sums[isCarry(s, i, j) ? 0 : 1] += x.relief[i][j];
            }
        }
        for (Claim c : s.claims) {
            sums[isCarry(s, c.i, c.j) ? 2 : 3] += c.n;
        }
        return what < 0 || what > 3 ? -1 : sums[what];
    }

    // ---- what MEMBERS pay ----

    /** By payer and payee, for RELIEF (0) and for CLAIMS (1). */
    private int[][][] payments() {
        int m = s.members.size();
        int[][][] all = new int[2][m][m];
        Solution x = now();
        for (int i = 0; i < x.n; i++) {
            for (int j = 0; j < x.n; j++) {
                all[0][s.periods.get(j).member][s.periods.get(i).member] += paid(s, i, j, x.relief[i][j]);
            }
        }
        for (Claim c : s.claims) {
            all[1][s.periods.get(c.j).member][s.periods.get(c.i).member] += paid(s, c.i, c.j, c.n);
        }
        return all;
    }

    int pays(int m, int what) {
        if (!isMember(m) || what < 0 || what > 3) {
            return -1;
        }
        int[][] table = payments()[what / 2];
        int sum = 0;
        for (int x = 0; x < s.members.size(); x++) {
            sum += what % 2 == 0 ? table[m][x] : table[x][m];
        }
        return sum;
    }

    int balance(int m) {
        return isMember(m) ? pays(m, 1) + pays(m, 3) - pays(m, 0) - pays(m, 2) : -9999999;
    }

    int owes(int a, int b) {
        if (!isMember(a) || !isMember(b) || a == b) {
            return -9999999;
        }
        int[][][] all = payments();
        return all[0][a][b] + all[1][a][b] - all[0][b][a] - all[1][b][a];
    }

    private List<int[]> settlement() {
        List<Integer> balances = new ArrayList<>();
        for (int m = 0; m < s.members.size(); m++) {
            balances.add(balance(m));
        }
        List<int[]> all = new ArrayList<>();
        while (balances.stream().anyMatch(b -> b < 0)) {
            int least = Collections.min(balances);
            int greatest = Collections.max(balances);
            int payer = balances.indexOf(least);
            int payee = balances.indexOf(greatest);
            int amount = Math.min(-least, greatest);
            balances.set(payer, least + amount);
            balances.set(payee, greatest - amount);
            all.add(new int[] {payer, payee, amount});
        }
        return all;
    }

    int settles() {
        return settlement().size();
    }

    int settling(int k, int what) {
        if (k < 0 || what < 0 || what > 2) {
            return -1;
        }
        List<int[]> all = settlement();
        return k >= all.size() ? -2 : all.get(k)[what];
    }

    int tax(int m) {
        if (!isMember(m)) {
            return -1;
        }
        int sum = 0;
        for (int p = 0; p < s.periods.size(); p++) {
            if (s.periods.get(p).member == m && s.periods.get(p).result > 0) {
                sum += now().left[p] * s.members.get(m).rate / 100;
            }
        }
        return sum;
    }

    // ---- as if it were otherwise ----

    int without(int m) {
        if (!isMember(m)) {
            return -1;
        }
        State t = s.copy();
        t.claims.removeIf(c -> s.periods.get(c.i).member == m || s.periods.get(c.j).member == m);
        t.periods.clear();
        Map<Integer, Integer> numbers = new HashMap<>();
        for (int p = 0; p < s.periods.size(); p++) {
            if (s.periods.get(p).member != m) {
                numbers.put(p, t.periods.size());
                t.periods.add(s.periods.get(p));
            }
        }
        t.claims.replaceAll(c -> new Claim(numbers.get(c.i), numbers.get(c.j), c.n));
        return new Solution(t).total();
    }

    int worth(int i, int j, int m) {
        return !isLink(s, i, j) || m < 1 || m > 99999 ? -1 : new Solution(s, i, j, m).total() - now().total();
    }

    int lack(int i, int j, int m) {
        return !isLink(s, i, j) || m < 1 || m > 99999 ? -1 : now().total() - new Solution(s, i, j, -m).total();
    }

    int byCarry(int c) {
        State t = s.withoutClaims();
        t.carry = c;
        return c < 0 || c > 1 ? -1 : new Solution(t).total();
    }

    int byGate(int g) {
        State t = s.withoutClaims();
        t.gate = g;
        return g < 1 || g > 100 ? -1 : new Solution(t).total();
    }

    int gateFor(int n) {
        if (n < 0 || n > 9999999) {
            return -1;
        }
        for (int g = 100; g >= 1; g--) {
            if (byGate(g) >= n) {
                return g;
            }
        }
        return -2;
    }

    int ifFirst(int p, int d) {
        if (!isPeriod(p) || d < 0 || d > s.periods.get(p).last) {
            return -1;
        }
        State t = s.withoutClaims();
        t.periods.set(p, s.periods.get(p).withFirst(d));
        for (int q = 0; q < t.periods.size(); q++) {
            Period x = t.periods.get(q);
            for (int day = d; day <= s.periods.get(p).last; day++) {
                if (q != p && x.member == s.periods.get(p).member && x.first <= day && day <= x.last) {
                    return -2;
                }
            }
        }
        return new Solution(t).total();
    }

    int chance(int seed, int n, int what) {
        if (seed < -1 || n < 1 || n > 60 || what < 0 || what > 2 || s.periods.isEmpty()) {
            return -1;
        }
        State t = s.copy();
        long x = seed == -1 ? s.seed : seed;
        int sum = 0;
        int[] drawn = new int[3];
        int[] modulo = {s.periods.size(), s.periods.size(), 1000};
        for (int k = 0; k < n; k++) {
            for (int e = 0; e < 3; e++) {
                x = (x * 1103515245L + 12345L) % 2147483648L;
                drawn[e] = (int) (x / 65536 % modulo[e]);
            }
            if (claimCode(t, drawn[0], drawn[1], drawn[2] + 1) >= 0) {
                t.claims.add(new Claim(drawn[0], drawn[1], drawn[2] + 1));
                sum += drawn[2] + 1;
            }
        }
        return what == 0 ? t.claims.size() - s.claims.size() : what == 1 ? sum : new Solution(t).total();
    }

    // ---- undone, IMAGES ----

    int undo() {
        if (past.isEmpty()) {
            return -1;
        }
        s = past.removeLast();
        return past.size();
    }

    int keep() {
        image = s.copy();
        return s.claims.size();
    }

    int back() {
        if (image == null) {
            return -1;
        }
        s = image.copy();
        past.clear();
        return s.claims.size();
    }

    int count(int what) {
        int losses = (int) s.periods.stream().filter(p -> p.result < 0).count();
        int profits = (int) s.periods.stream().filter(p -> p.result > 0).count();
        int[] all = {s.members.size(), s.periods.size(), s.owns.size(), s.claims.size(), s.gate, s.price,
            losses, profits, past.size(), tape.length, s.carry};
        return what < 0 || what > 10 ? -1 : all[what];
    }

    private boolean isMember(int m) {
        return m >= 0 && m < s.members.size();
    }

    private boolean isPeriod(int p) {
        return p >= 0 && p < s.periods.size();
    }

    private static boolean isDay(int d) {
        return d >= 0 && d <= 999;
    }
}
