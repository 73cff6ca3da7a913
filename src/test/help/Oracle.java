import java.math.BigInteger;
import java.util.ArrayDeque;
import java.util.ArrayList;
import java.util.Arrays;
import java.util.Collections;
import java.util.Deque;
import java.util.HashMap;
import java.util.HashSet;
import java.util.List;
import java.util.Map;
import java.util.Set;
import java.util.TreeMap;
import java.util.regex.Matcher;
import java.util.regex.Pattern;

/** The document read a second time, as plainly and as slowly as can be; random runs are held against it. */
final class Oracle {
    static final class Fault extends RuntimeException {
        final int number;
        final int place;

        Fault(int number, int place) {
            super(null, null, false, false);
            this.number = number;
            this.place = place;
        }
    }

    static final class Stop extends RuntimeException {
        final int how;

        Stop(int how) {
            super(null, null, false, false);
            this.how = how;
        }
    }

    /** A LINE is its TOKENS: an optional NAME and :, then the ORDER. */
    record Line(List<String> tokens) {
        String name() {
            return tokens.size() > 1 && tokens.get(1).equals(":") ? tokens.get(0) : null;
        }

        List<String> order() {
            return name() == null ? tokens : tokens.subList(2, tokens.size());
        }

        String last() {
            return tokens.get(tokens.size() - 1);
        }
    }

    record Trial(List<Integer> in, List<Integer> gives) { }

    record Sight(int row, int trial, String does) { }

    static final class State {
        List<String> names = new ArrayList<>();
        List<List<Line>> rows = new ArrayList<>();
        List<Sight> seen = new ArrayList<>();

        State copy() {
            State s = new State();
            s.names.addAll(names);
            for (List<Line> row : rows) {
                s.rows.add(new ArrayList<>(row));
            }
            s.seen.addAll(seen);
            return s;
        }
    }

    static final class Ran {
        int how;
        List<Integer> output = new ArrayList<>();
        List<Integer> steps = new ArrayList<>();
        int[] counters = new int[4];
        Deque<Integer> in;

        String does() {
            return how + " " + output;
        }
    }

    static final List<String> WORDS = Arrays.asList("row", "trial", "gives", "fuel", "set", "add", "sub", "mul",
        "div", "out", "go", "if", "call", "end", "skip", "ka", "kb", "kc", "kd", "in");
    static final List<String> ORDERS = Arrays.asList("set", "add", "sub", "mul", "div", "out", "go", "if", "call",
        "end", "skip");
    static final int NONE = -1;

    State now = new State();
    List<Trial> trials = new ArrayList<>();
    int fuel = 100;
    State[] slots = new State[3];
    StringBuilder tape = new StringBuilder();
    int place = NONE;

    // ---- texts

    private List<String> tokens;
    private List<Integer> places;
    private int at;

    int read() {
        String text = tape.toString();
        tape.setLength(0);
        try {
            parse(text);
        } catch (Fault f) {
            place = f.place;
            return f.number;
        }
        place = NONE;
        slots = new State[3];
        return 0;
    }

    private void parse(String text) {
        tokens = new ArrayList<>();
        places = new ArrayList<>();
        Matcher m = Pattern.compile("[a-z]+|[0-9]+|==|!=|<=|[;:{}<-]|[\\t\\n\\r ]+|(?s:.)").matcher(text);
        while (m.find()) {
            String t = m.group();
            if (!t.isBlank() || t.charAt(0) > 32 || "\t\n\r ".indexOf(t.charAt(0)) < 0) {
                tokens.add(t);
                places.add(m.start());
            }
        }
        tokens.add("");
        places.add(text.length());
        at = 0;
        State told = new State();
        List<Trial> toldTrials = new ArrayList<>();
        int toldFuel = 100;
        TreeMap<Integer, Integer> later = new TreeMap<>();
        while (!peek("")) {
            if (peek("row")) {
                parseRow(told, later);
            } else if (peek("trial")) {
                if (toldTrials.size() == 8) {
                    throw new Fault(2, places.get(at));
                }
                toldTrials.add(parseTrial());
            } else {
                pass(peek("fuel"));
                int where = places.get(at);
                pass(isInt(tokens.get(at)));
                toldFuel = Integer.parseInt(tokens.get(at - 1));
                if (toldFuel == 0 || toldFuel > 300) {
                    later.put(where, 5);
                }
                pass(peek(";"));
            }
        }
        if (!later.isEmpty()) {
            throw new Fault(later.firstEntry().getValue(), later.firstKey());
        }
        now = told;
        trials = toldTrials;
        fuel = toldFuel;
    }

    private boolean peek(String token) {
        return tokens.get(at).equals(token);
    }

    private void pass(boolean fits) {
        if (!fits) {
            throw new Fault(1, places.get(at));
        }
        if (at == 400) {
            throw new Fault(2, places.get(at));
        }
        at++;
    }

    static boolean isInt(String t) {
        return t.matches("[0-9]{1,4}");
    }

    static boolean isName(String t) {
        return t.matches("[a-z]{1,8}") && !WORDS.contains(t);
    }

    static boolean isCounter(String t) {
        return t.matches("k[abcd]");
    }

    private void parseRow(State told, Map<Integer, Integer> later) {
        if (told.rows.size() == 4) {
            throw new Fault(2, places.get(at));
        }
        pass(true);
        String name = tokens.get(at);
        int where = places.get(at);
        pass(isName(name));
        if (told.names.contains(name)) {
            later.put(where, 3);
        }
        pass(peek("{"));
        List<Line> row = new ArrayList<>();
        Map<Integer, String> jumps = new HashMap<>();
        while (!peek("}")) {
            if (!isName(tokens.get(at)) && !ORDERS.contains(tokens.get(at))) {
                throw new Fault(1, places.get(at));
            }
            if (row.size() == 16) {
                throw new Fault(2, places.get(at));
            }
            int from = at;
            if (isName(tokens.get(at))) {
                pass(true);
                pass(peek(":"));
            }
            String order = tokens.get(at);
            pass(ORDERS.contains(order));
            if (ORDERS.indexOf(order) <= 4) {
                pass(isCounter(tokens.get(at)));
                parseV();
            } else if (order.equals("out")) {
                parseV();
            } else if (order.equals("if")) {
                parseV();
                pass(Arrays.asList("==", "!=", "<", "<=").contains(tokens.get(at)));
                parseV();
            }
            if (order.equals("go") || order.equals("if")) {
                jumps.put(places.get(at), tokens.get(at));
                pass(isName(tokens.get(at)));
            }
            if (order.equals("call")) {
                if (!told.names.contains(tokens.get(at))) {
                    later.put(places.get(at), 4);
                }
                pass(isName(tokens.get(at)));
            }
            row.add(new Line(new ArrayList<>(tokens.subList(from, at))));
            pass(peek(";"));
        }
        pass(true);
        for (Map.Entry<Integer, String> jump : jumps.entrySet()) {
            if (row.stream().noneMatch(line -> jump.getValue().equals(line.name()))) {
                later.put(jump.getKey(), 4);
            }
        }
        told.names.add(name);
        told.rows.add(row);
    }

    private void parseV() {
        if (isCounter(tokens.get(at)) || peek("in")) {
            pass(true);
        } else {
            parseN();
        }
    }

    private int parseN() {
        boolean below = peek("-");
        if (below) {
            pass(true);
        }
        pass(isInt(tokens.get(at)));
        int n = Integer.parseInt(tokens.get(at - 1));
        return below ? -n : n;
    }

    private List<Integer> parseNs(int limit) {
        List<Integer> ns = new ArrayList<>();
        while (peek("-") || isInt(tokens.get(at))) {
            if (ns.size() == limit) {
                throw new Fault(2, places.get(at));
            }
            ns.add(parseN());
        }
        return ns;
    }

    private Trial parseTrial() {
        pass(true);
        List<Integer> in = parseNs(6);
        List<Integer> gives = null;
        if (peek("gives")) {
            pass(true);
            gives = parseNs(8);
        }
        pass(peek(";"));
        return new Trial(in, gives);
    }

    // ---- RUNS

    Ran run(List<Line> row, int number, int lost, int trial) {
        Ran ran = new Ran();
        ran.in = new ArrayDeque<>(trials.get(trial).in());
        try {
            goThrough(row, number, lost, ran);
            ran.how = 0;
        } catch (Stop s) {
            ran.how = s.how;
        }
        return ran;
    }

    private void goThrough(List<Line> row, int number, int lost, Ran ran) {
        int line = 0;
        while (line < row.size()) {
            if ((lost >> line & 1) == 1) {
                line++;
                continue;
            }
            if (ran.steps.size() == fuel) {
                throw new Stop(1);
            }
            ran.steps.add(20 * number + line);
            List<String> o = row.get(line).order();
            line++;
            if (o.get(0).equals("end")) {
                return;
            }
            if (o.get(0).equals("call")) {
                int called = now.names.indexOf(o.get(1));
                goThrough(now.rows.get(called), called, 0, ran);
            } else if (o.get(0).equals("go") || o.get(0).equals("if") && holds(o, ran)) {
                int to = leads(row, o.get(o.size() - 1), lost);
                line = to < 0 ? line : to;
            } else if (o.get(0).equals("out")) {
                if (ran.output.size() == 8) {
                    throw new Stop(3);
                }
                ran.output.add(value(o, 1, ran));
            } else if (ORDERS.indexOf(o.get(0)) <= 4) {
                reckon(o, ran);
            }
        }
    }

    static int leads(List<Line> row, String name, int lost) {
        for (int i = 0; i < row.size(); i++) {
            if ((lost >> i & 1) == 0 && name.equals(row.get(i).name())) {
                return i;
            }
        }
        return -1;
    }

    private static int value(List<String> o, int from, Ran ran) {
        String t = o.get(from);
        if (t.equals("in")) {
            return ran.in.isEmpty() ? 0 : ran.in.removeFirst();
        }
        if (isCounter(t)) {
            return ran.counters[t.charAt(1) - 'a'];
        }
        return t.equals("-") ? -Integer.parseInt(o.get(from + 1)) : Integer.parseInt(t);
    }

    private static boolean holds(List<String> o, Ran ran) {
        int test = o.get(1).equals("-") ? 3 : 2;
        int a = value(o, 1, ran);
        int b = value(o, test + 1, ran);
        switch (o.get(test)) {
            case "==": return a == b;
            case "!=": return a != b;
            case "<": return a < b;
            default: return a <= b;
        }
    }

    private static void reckon(List<String> o, Ran ran) {
        int c = o.get(1).charAt(1) - 'a';
        long was = ran.counters[c];
        long v = value(o, 2, ran);
        switch (o.get(0)) {
            case "set": was = v; break;
            case "add": was += v; break;
            case "sub": was -= v; break;
            case "mul": was *= v; break;
            default:
                if (v == 0) {
                    throw new Stop(2);
                }
                was /= v;
        }
        ran.counters[c] = (int) was;
    }

    // ---- what is there

    boolean row(int r) {
        return r >= 0 && r < now.rows.size();
    }

    boolean lost(int r, int lost) {
        return row(r) && lost >= 0 && lost < 1 << now.rows.get(r).size();
    }

    boolean trial(int t) {
        return t >= 0 && t < trials.size();
    }

    int size(int r) {
        return now.rows.get(r).size();
    }

    // ---- promises

    int feed(int... five) {
        if (tape.length() + 20 > 2000) {
            return NONE;
        }
        for (int i : five) {
            for (int s = 24; s >= 0; s -= 8) {
                tape.append((char) (i >> s & 255));
            }
        }
        return tape.length();
    }

    int back(int n) {
        if (n < 0 || n > tape.length()) {
            return NONE;
        }
        tape.setLength(tape.length() - n);
        return tape.length();
    }

    int lines(int r) {
        return row(r) ? size(r) : NONE;
    }

    int line(int r, int l, int what) {
        if (!row(r) || l < 0 || l >= size(r)) {
            return NONE;
        }
        Line line = now.rows.get(r).get(l);
        String order = line.order().get(0);
        if (what == 0) {
            return ORDERS.indexOf(order);
        }
        if (what == 1) {
            return line.tokens().size();
        }
        if (what == 2 && (order.equals("go") || order.equals("if"))) {
            int to = leads(now.rows.get(r), line.last(), 0);
            return to < 0 ? -2 : to;
        }
        return NONE;
    }

    Ran ran(int r, int lost, int t) {
        return lost(r, lost) && trial(t) ? run(now.rows.get(r), r, lost, t) : null;
    }

    int run(int r, int lost, int t) {
        Ran ran = ran(r, lost, t);
        return ran == null ? NONE : ran.how;
    }

    int after(int r, int lost, int t, int what) {
        Ran ran = ran(r, lost, t);
        if (ran == null || what < 0 || what > 5) {
            return NONE;
        }
        return what == 0 ? ran.output.size() : what == 1 ? ran.steps.size() : ran.counters[what - 2];
    }

    int out(int r, int lost, int t, int i) {
        Ran ran = ran(r, lost, t);
        return ran == null || i < 0 || i >= ran.output.size() ? Integer.MIN_VALUE : ran.output.get(i);
    }

    int step(int r, int lost, int t, int i) {
        Ran ran = ran(r, lost, t);
        return ran == null || i < 0 || i >= ran.steps.size() ? NONE : ran.steps.get(i);
    }

    boolean alike(int r, int lost, int t) {
        return ran(r, lost, t).does().equals(ran(r, 0, t).does());
    }

    private final Map<Integer, Boolean> sameOf = new HashMap<>();
    private int sameRow = NONE;
    private State sameState;

    boolean isSame(int r, int lost) {
        if (sameRow != r || sameState != now) {
            sameOf.clear();
            sameRow = r;
            sameState = now;
        }
        return sameOf.computeIfAbsent(lost, set -> firstOther(r, set) == -2);
    }

    int firstOther(int r, int lost) {
        for (int t = 0; t < trials.size(); t++) {
            if (!alike(r, lost, t)) {
                return t;
            }
        }
        return -2;
    }

    int same(int r, int lost) {
        return lost(r, lost) ? (isSame(r, lost) ? 1 : 0) : NONE;
    }

    int differs(int r, int lost) {
        return lost(r, lost) ? firstOther(r, lost) : NONE;
    }

    List<Integer> sets(int size, int n) {
        List<Integer> sets = new ArrayList<>();
        for (int s = 0; s < 1 << size; s++) {
            if (Integer.bitCount(s) == n) {
                sets.add(s);
            }
        }
        return sets;
    }

    int breaks(int r, int n) {
        if (!row(r) || n < 0 || n > 3) {
            return NONE;
        }
        for (int s : sets(size(r), n)) {
            if (!isSame(r, s)) {
                return s;
            }
        }
        return -2;
    }

    int bears(int r, int n) {
        int b = breaks(r, n);
        return b == NONE ? NONE : b == -2 ? 1 : 0;
    }

    int idle(int r) {
        if (!row(r)) {
            return NONE;
        }
        int bits = 0;
        for (int i = 0; i < size(r); i++) {
            bits |= isSame(r, 1 << i) ? 1 << i : 0;
        }
        return bits;
    }

    int harm(int r, int l) {
        if (!row(r) || l < 0 || l >= size(r)) {
            return NONE;
        }
        int sum = 0;
        for (int t = 0; t < trials.size(); t++) {
            sum += alike(r, 1 << l, t) ? 0 : 1;
        }
        return sum;
    }

    int worst(int r) {
        if (!row(r)) {
            return NONE;
        }
        int worst = -2;
        for (int i = size(r) - 1; i >= 0; i--) {
            if (worst == -2 || harm(r, i) >= harm(r, worst)) {
                worst = i;
            }
        }
        return worst;
    }

    int pair(int r) {
        if (!row(r)) {
            return NONE;
        }
        for (int i = 0; i < size(r); i++) {
            for (int j = i + 1; j < size(r); j++) {
                if (isSame(r, 1 << i) && isSame(r, 1 << j) && !isSame(r, 1 << i | 1 << j)) {
                    return 100 * i + j;
                }
            }
        }
        return -2;
    }

    int mends(int r) {
        if (!row(r)) {
            return NONE;
        }
        if (size(r) == 16) {
            return -2;
        }
        int bits = 0;
        for (int i = 0; i < size(r); i++) {
            List<Line> twice = new ArrayList<>(now.rows.get(r));
            twice.add(i + 1, twice.get(i));
            boolean mends = true;
            for (int t = 0; t < trials.size(); t++) {
                String was = ran(r, 0, t).does();
                for (int lost : new int[] {0, 1 << i, 2 << i}) {
                    mends &= run(twice, r, lost, t).does().equals(was);
                }
            }
            bits |= mends ? 1 << i : 0;
        }
        return bits;
    }

    int reached(int r) {
        if (!row(r)) {
            return NONE;
        }
        int bits = 0;
        for (int t = 0; t < trials.size(); t++) {
            for (int s : ran(r, 0, t).steps) {
                bits |= s / 20 == r ? 1 << s % 20 : 0;
            }
        }
        return bits;
    }

    static int lot(int n, int seed, int which) {
        long h = seed & 0xffffffffL;
        for (long x : new long[] {22, which & 0xffffffffL}) {
            h = ((h ^ x) * 1103515245L + 12345) & 0xffffffffL;
            h = h ^ (h / 32768);
        }
        return (int) (h / 2 % n);
    }

    int life(int r, int law, int seed) {
        if (!row(r) || law < 0 || law > 3) {
            return NONE;
        }
        List<Integer> there = new ArrayList<>();
        for (int i = 0; i < size(r); i++) {
            there.add(i);
        }
        int times = 0;
        int lost = 0;
        while (isSame(r, lost)) {
            times++;
            if (there.isEmpty()) {
                return times;
            }
            int which = 0;
            if (law == 0) {
                which = there.size() - 1;
            } else if (law == 2) {
                for (int i = 0; i < there.size(); i++) {
                    if (line(r, there.get(i), 1) > line(r, there.get(which), 1)) {
                        which = i;
                    }
                }
            } else if (law == 3) {
                which = lot(there.size(), seed, Integer.bitCount(lost));
            }
            lost |= 1 << there.remove(which);
        }
        return times;
    }

    int soonest(int r) {
        if (!row(r)) {
            return NONE;
        }
        if (size(r) > 12) {
            return -2;
        }
        Set<Integer> level = new HashSet<>(Collections.singleton(0));
        for (int k = 1; k <= size(r); k++) {
            Set<Integer> next = new HashSet<>();
            for (int set : level) {
                for (int i = 0; i < size(r); i++) {
                    if ((set >> i & 1) == 0) {
                        next.add(set | 1 << i);
                    }
                }
            }
            for (int set : next) {
                if (!isSame(r, set)) {
                    return k;
                }
            }
            level = next;
        }
        return 0;
    }

    private long orders(int r, int set, int k, Map<Integer, Long> known) {
        if (k == 0) {
            return 1;
        }
        Long was = known.get(set * 16 + k);
        if (was != null) {
            return was;
        }
        long sum = 0;
        for (int i = 0; i < size(r); i++) {
            int more = set | 1 << i;
            if (more != set && isSame(r, more)) {
                sum += orders(r, more, k - 1, known);
            }
        }
        known.put(set * 16 + k, sum);
        return sum;
    }

    long ways(int r, int k) {
        if (!row(r) || k < 0 || k > size(r)) {
            return -1;
        }
        return size(r) > 12 ? -2 : orders(r, 0, k, new HashMap<>());
    }

    long mean(int r, boolean below) {
        if (!row(r)) {
            return -1;
        }
        if (size(r) > 12) {
            return -2;
        }
        BigInteger sum = BigInteger.ZERO;
        for (int k = 0; k <= size(r); k++) {
            sum = sum.add(BigInteger.valueOf(ways(r, k)).multiply(factorial(size(r) - k)));
        }
        BigInteger all = factorial(size(r));
        return (below ? all : sum).divide(sum.gcd(all)).longValueExact();
    }

    private static BigInteger factorial(int n) {
        BigInteger f = BigInteger.ONE;
        for (int i = 2; i <= n; i++) {
            f = f.multiply(BigInteger.valueOf(i));
        }
        return f;
    }

    int core(int r, int what) {
        if (!row(r) || what < 0 || what > 1) {
            return NONE;
        }
        if (size(r) > 12) {
            return -2;
        }
        int all = (1 << size(r)) - 1;
        for (int n = 0; n <= size(r); n++) {
            for (int kept : sets(size(r), n)) {
                if (isSame(r, all - kept)) {
                    return what == 0 ? n : kept;
                }
            }
        }
        throw new IllegalStateException();
    }

    boolean doesTable(List<Line> row, int number, int lost) {
        for (int t = 0; t < trials.size(); t++) {
            List<Integer> gives = trials.get(t).gives();
            if (gives != null) {
                Ran ran = run(row, number, lost, t);
                if (ran.how != 0 || !ran.output.equals(gives)) {
                    return false;
                }
            }
        }
        return true;
    }

    int does(int r, int lost) {
        return lost(r, lost) ? (doesTable(now.rows.get(r), r, lost) ? 1 : 0) : NONE;
    }

    /** The LINES that are SOUGHT; null: none; what is SPENT is told by a list of -3. */
    List<Integer> seek(int r, int n, int m) {
        for (int length = 0; length <= n; length++) {
            if (Math.pow(size(r), length) > 30000) {
                return Collections.singletonList(-3);
            }
            List<Integer> found = seekOf(r, length, m, new ArrayList<>());
            if (found != null) {
                return found;
            }
        }
        return null;
    }

    private List<Integer> seekOf(int r, int length, int m, List<Integer> chosen) {
        if (chosen.size() == length) {
            List<Line> made = new ArrayList<>();
            for (int i : chosen) {
                made.add(now.rows.get(r).get(i));
            }
            boolean good = doesTable(made, r, 0);
            for (int i = 0; i < length && m == 1; i++) {
                good = good && doesTable(made, r, 1 << i);
            }
            return good ? new ArrayList<>(chosen) : null;
        }
        for (int i = 0; i < size(r); i++) {
            chosen.add(i);
            List<Integer> found = seekOf(r, length, m, chosen);
            chosen.remove(chosen.size() - 1);
            if (found != null) {
                return found;
            }
        }
        return null;
    }

    private boolean canSeek(int r, int n, int m) {
        return row(r) && n >= 0 && n <= 5 && (m == 0 || m == 1);
    }

    int sought(int r, int n, int m) {
        if (!canSeek(r, n, m)) {
            return NONE;
        }
        List<Integer> found = seek(r, n, m);
        if (found == null) {
            return -2;
        }
        return found.size() == 1 && found.get(0) == -3 ? -3 : found.size();
    }

    int soughtAt(int r, int n, int m, int i) {
        if (!canSeek(r, n, m)) {
            return NONE;
        }
        List<Integer> found = seek(r, n, m);
        if (found == null || i < 0 || i >= found.size() || found.get(i) < 0) {
            return NONE;
        }
        return found.get(i);
    }

    int put(int r, int l, int to) {
        if (!row(r) || l < 0 || l >= size(r) || to < 0 || to > size(r) || size(r) == 16) {
            return NONE;
        }
        now = now.copy();
        now.rows.get(r).add(to, now.rows.get(r).get(l));
        now.seen.clear();
        return size(r);
    }

    int take(int r, int l) {
        if (!row(r) || l < 0 || l >= size(r)) {
            return NONE;
        }
        now = now.copy();
        now.rows.get(r).remove(l);
        now.seen.clear();
        return size(r);
    }

    int see(int r, int t, int lost) {
        Ran ran = ran(r, lost, t);
        if (ran == null || now.seen.size() == 20 || !now.seen.isEmpty() && now.seen.get(0).row() != r) {
            return NONE;
        }
        now.seen.add(new Sight(r, t, ran.does()));
        return now.seen.size() - 1;
    }

    int forget() {
        int were = now.seen.size();
        now.seen.clear();
        return were;
    }

    List<Integer> suspectSets(int r, int n, int k) {
        if (!row(r) || n < 0 || n > 2 || k < 0 || k > now.seen.size() || k > 0 && now.seen.get(0).row() != r) {
            return null;
        }
        List<Integer> left = new ArrayList<>();
        for (int set : sets(size(r), n)) {
            boolean fits = true;
            for (Sight s : now.seen.subList(0, k)) {
                fits = fits && ran(r, set, s.trial()).does().equals(s.does());
            }
            if (fits) {
                left.add(set);
            }
        }
        return left;
    }

    int suspects(int r, int n, int k) {
        List<Integer> left = suspectSets(r, n, k);
        return left == null ? NONE : left.size();
    }

    int suspect(int r, int n, int k, int i) {
        List<Integer> left = suspectSets(r, n, k);
        return left == null || i < 0 || i >= left.size() ? NONE : left.get(i);
    }

    private List<List<Integer>> split(int r, List<Integer> sets, int t, Map<Integer, String> known) {
        Map<String, List<Integer>> groups = new HashMap<>();
        for (int set : sets) {
            String does = known.computeIfAbsent(set * 8 + t, key -> ran(r, set, t).does());
            groups.computeIfAbsent(does, key -> new ArrayList<>()).add(set);
        }
        return new ArrayList<>(groups.values());
    }

    int next(int r, int n, int k) {
        List<Integer> left = suspectSets(r, n, k);
        if (left == null) {
            return NONE;
        }
        int best = -2;
        int least = Integer.MAX_VALUE;
        for (int t = 0; t < trials.size() && !left.isEmpty(); t++) {
            int greatest = 0;
            for (List<Integer> group : split(r, left, t, new HashMap<>())) {
                greatest = Math.max(greatest, group.size());
            }
            if (greatest < least) {
                least = greatest;
                best = t;
            }
        }
        return best;
    }

    /** Trials that split nothing are passed over: they never help. */
    private int fewest(int r, List<Integer> sets, Map<Integer, String> known, Map<List<Integer>, Integer> memo) {
        Integer was = memo.get(sets);
        if (was != null) {
            return was;
        }
        int best = Integer.MAX_VALUE;
        boolean apart = false;
        for (int t = 0; t < trials.size(); t++) {
            List<List<Integer>> groups = split(r, sets, t, known);
            if (groups.size() > 1) {
                apart = true;
                int worst = 0;
                for (List<Integer> group : groups) {
                    worst = Math.max(worst, fewest(r, group, known, memo));
                }
                best = Math.min(best, 1 + worst);
            }
        }
        int answer = apart ? best : 0;
        memo.put(sets, answer);
        return answer;
    }

    int most(int r, int n, int k) {
        List<Integer> left = suspectSets(r, n, k);
        if (left == null) {
            return NONE;
        }
        int fewest = fewest(r, left, new HashMap<>(), new HashMap<>());
        return fewest > 4 ? -2 : fewest;
    }

    boolean hold(int slot) {
        if (slot < 0 || slot > 2) {
            return false;
        }
        slots[slot] = now.copy();
        return true;
    }

    boolean restore(int slot) {
        if (slot < 0 || slot > 2 || slots[slot] == null) {
            return false;
        }
        now = slots[slot].copy();
        return true;
    }

    int count(int what) {
        switch (what) {
            case 0: return now.rows.size();
            case 1: return trials.size();
            case 2: return (int) trials.stream().filter(t -> t.gives() != null).count();
            case 3: return fuel;
            case 4: return now.seen.size();
            case 5: return tape.length();
            case 6: return (int) Arrays.stream(slots).filter(s -> s != null).count();
            default:
        }
        if (what >= 10 && what < 10 + trials.size()) {
            return trials.get(what - 10).in().size();
        }
        if (what >= 20 && what < 20 + trials.size()) {
            List<Integer> gives = trials.get(what - 20).gives();
            return gives == null ? -2 : gives.size();
        }
        return NONE;
    }
}
