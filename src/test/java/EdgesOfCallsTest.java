import java.util.function.ToLongFunction;

/** The boundaries that promises 1 to 22 name, and that refused calls and questions change nothing. */
public final class EdgesOfCallsTest {
    private static final Edges edges = new Edges();
    private static final Check check = edges.check;
    private static final int NO_NUMBER = -2147483648;
    private static final int[] NO_ROWS = {-2147483648, -2, -1, 3, 4, 20, 2147483647};
    private static final int[] NO_TRIALS = {-2147483648, -1, 3, 8, 10, 2147483647};

    public static void main(String[] args) {
        edges.sentence("`MiceEngine()`: Nothing is told.", EdgesOfCallsTest::newObject);
        edges.sentence("Twenty bytes, the highest of a first, come behind the tape: how many it has.", EdgesOfCallsTest::feeds);
        edges.sentence("NONE, and nothing comes, if it would have more than 2,000.", EdgesOfCallsTest::feedRefused);
        edges.sentence("The last n bytes of the tape go: how many it has.", EdgesOfCallsTest::goesBack);
        edges.sentence("NONE, and nothing goes, if it has not so many, or n is below 0.", EdgesOfCallsTest::backRefused);
        edges.sentence("The tape, which is empty then, is read: 0, or the number of its FAULT.", EdgesOfCallsTest::reads);
        edges.sentence("The byte of the latest read()'s FAULT; NONE without.", EdgesOfCallsTest::places);
        edges.sentence("How many LINES a ROW has; NONE: no such one.", EdgesOfCallsTest::lines);
        edges.sentence("what 0 its ORDER (0 set, 1 add, 2 sub, 3 mul, 4 div, 5 out, 6 go, 7 if, 8 call, 9 end, 10 skip), 1 how many "
            + "TOKENS it has, 2 where go, if lead to now (the LINE; -2: none has the NAME).", EdgesOfCallsTest::ofLine);
        edges.sentence("NONE for others, for what it has not.", EdgesOfCallsTest::lineRefused);
        edges.sentence("A RUN without lost LINES (bits) in a TRIAL: how it stops; NONE: no such ones.", EdgesOfCallsTest::runRefused);
        edges.sentence("what 0 how many numbers go out, 1 how many STEPS are done, 2 .. 5 ka .. kd at the end.", EdgesOfCallsTest::afterWhat);
        edges.sentence("NONE: no such ones (a counter may be -1 as well).", EdgesOfCallsTest::afterRefused);
        edges.sentence("Of that RUN the i-th number that goes out; -2147483648: not so many, no such ones.", EdgesOfCallsTest::outRefused);
        edges.sentence("1 if SAME, else 0; NONE: no such ones.", EdgesOfCallsTest::sameRefused);
        edges.sentence("The first TRIAL in which it DOES something else; -2: SAME; NONE: no such ones.", EdgesOfCallsTest::differs);
        edges.sentence("1 if it BEARS n, else 0; NONE: no such ones.", EdgesOfCallsTest::bearsRefused);
        edges.sentence("BREAKS (bits); -2: none; NONE: no such ones.", EdgesOfCallsTest::breaksRefused);
        edges.sentence("IDLE (bits); NONE: no such one.", () -> noRow("idle", (x, r) -> x.idle(r), true));
        edges.sentence("HARM; NONE: no such ones.", EdgesOfCallsTest::harmRefused);
        edges.sentence("WORST LINE; -2: it has no LINES; NONE: no such one.", () -> noRow("worst", (x, r) -> x.worst(r), false));
        edges.sentence("100 * the lesser LINE + the other one; -2: none; NONE: no such one.", () -> noRow("pair", (x, r) -> x.pair(r), false));
        edges.sentence("MENDS (bits); -2: 16 LINES; NONE: no such one.", () -> noRow("mends", (x, r) -> x.mends(r), true));
        edges.sentence("REACHED (bits); NONE: no such one.", () -> noRow("reached", (x, r) -> x.reached(r), true));
        edges.sentence("Of a RUN the i-th STEP (from 0 on): 20 * the ROW + the LINE that is done; NONE: not so many, no such ones.",
            EdgesOfCallsTest::stepRefused);
        edges.sentence("LIFE by a law (0 .. 3; the SEED of 3); NONE: no such ones.", EdgesOfCallsTest::lifeRefused);
        check.end();
    }

    private interface OfRow {
        long of(MiceEngine x, int row);
    }

    private static void asks(String name, ToLongFunction<MiceEngine> call, long want) {
        edges.refused(name, Busy::made, call, want);
    }

    /** What has no such ROW; the ROW of no LINES has none of its bits. */
    private static void noRow(String name, OfRow call, boolean isBits) {
        for (int row : NO_ROWS) {
            asks(name + "(" + row + ")", x -> call.of(x, row), -1);
        }
        asks(name + "(2) of no LINES", x -> call.of(x, 2), isBits ? 0 : -2);
        MiceEngine fresh = new MiceEngine();
        check.due(name + "(0) of a new object", call.of(fresh, 0), -1);
    }

    private static void newObject() {
        MiceEngine x = new MiceEngine();
        for (int what = -3; what <= 30; what++) {
            boolean isNumber = what >= 0 && what <= 6;
            check.due("count(" + what + ")", x.count(what), what == 3 ? 100 : isNumber ? 0 : -1);
        }
        check.due("place()", x.place(), -1);
        check.due("lines(0)", x.lines(0), -1);
        check.due("line(0,0,0)", x.line(0, 0, 0), -1);
        check.due("run(0,0,0)", x.run(0, 0, 0), -1);
        check.due("after(0,0,0,0)", x.after(0, 0, 0, 0), -1);
        check.due("out(0,0,0,0)", x.out(0, 0, 0, 0), NO_NUMBER);
        check.due("same(0,0)", x.same(0, 0), -1);
        check.due("differs(0,0)", x.differs(0, 0), -1);
        check.due("bears(0,0)", x.bears(0, 0), -1);
        check.due("breaks(0,0)", x.breaks(0, 0), -1);
        check.due("harm(0,0)", x.harm(0, 0), -1);
        check.due("step(0,0,0,0)", x.step(0, 0, 0, 0), -1);
        check.due("life(0,0,0)", x.life(0, 0, 0), -1);
        check.due("ways(0,0)", x.ways(0, 0), -1);
        check.due("mean(0,true)", x.mean(0, true), -1);
        check.due("core(0,0)", x.core(0, 0), -1);
        check.due("does(0,0)", x.does(0, 0), -1);
        check.due("sought(0,0,0)", x.sought(0, 0, 0), -1);
        check.due("soughtAt(0,0,0,0)", x.soughtAt(0, 0, 0, 0), -1);
        check.due("put(0,0,0)", x.put(0, 0, 0), -1);
        check.due("take(0,0)", x.take(0, 0), -1);
        check.due("see(0,0,0)", x.see(0, 0, 0), -1);
        check.due("suspects(0,0,0)", x.suspects(0, 0, 0), -1);
        check.due("suspect(0,0,0,0)", x.suspect(0, 0, 0, 0), -1);
        check.due("next(0,0,0)", x.next(0, 0, 0), -1);
        check.due("most(0,0,0)", x.most(0, 0, 0), -1);
        check.due("forget()", x.forget(), 0);
        check.due("restore(0)", x.restore(0), false);
        check.due("back(0)", x.back(0), 0);
        check.due("back(1)", x.back(1), -1);
        check.due("read()", x.read(), 0);
    }

    private static void feeds() {
        MiceEngine x = new MiceEngine();
        check.due("feed", x.feed(0x20202020, 0x20202020, 0x20202020, 0x20202020, 0x20202020), 20);
        check.due("feed", x.feed(0x6675656c, 0x20312032, 0, -1, 0x80000000), 40);
        check.due("count(5)", x.count(5), 40);
        // fuel 1 2: the second INT is at 27.
        check.due("read()", x.read(), 1);
        check.due("place()", x.place(), 27);
        // Each byte at its place: a sign that is no TOKEN is told by where it stands.
        for (int at = 0; at < 20; at++) {
            int[] five = {0x20202020, 0x20202020, 0x20202020, 0x20202020, 0x20202020};
            five[at / 4] = five[at / 4] ^ (0x20 ^ 0xff) << (24 - 8 * (at % 4));
            x.feed(five[0], five[1], five[2], five[3], five[4]);
            check.due("read()", x.read(), 1);
            check.due("place()", x.place(), at);
        }
        edges.heeded("feed", Busy::made, y -> y.feed(0x3d202020, 0, 0, 0, 0), 48);
        // Extremes of ints are bytes like others.
        check.due("feed", x.feed(-2147483648, 2147483647, -1, 0, 1), 20);
    }

    private static void feedRefused() {
        for (int bytes = 1979; bytes <= 2000; bytes++) {
            int many = bytes;
            if (bytes <= 1980) {
                check.due("feed behind " + bytes, Busy.withTape(bytes).feed(0, 0, 0, 0, 0), bytes + 20);
                edges.heeded("feed behind " + bytes, () -> Busy.withTape(many), x -> x.feed(0, 0, 0, 0, 0), bytes + 20);
            } else {
                edges.refused("feed behind " + bytes, () -> Busy.withTape(many), x -> x.feed(0, 0, 0, 0, 0), -1);
                edges.refused("feed behind " + bytes, () -> Busy.withTape(many), x -> x.feed(-1, -1, -1, -1, -1), -1);
            }
        }
        MiceEngine x = Busy.withTape(2000);
        check.due("feed", x.feed(0, 0, 0, 0, 0), -1);
        check.due("count(5)", x.count(5), 2000);
        check.due("back(20)", x.back(20), 1980);
        check.due("feed", x.feed(0x20202020, 0x20202020, 0x20202020, 0x20202020, 0x20202020), 2000);
        check.due("read()", x.read(), 0);
        check.due("feed after read()", x.feed(0, 0, 0, 0, 0), 20);
    }

    private static void goesBack() {
        MiceEngine x = new MiceEngine();
        Check.feed(x, "fuel 12;x");
        check.due("back(0)", x.back(0), 9);
        check.due("back(1)", x.back(1), 8);
        check.due("count(5)", x.count(5), 8);
        check.due("read()", x.read(), 0);
        check.due("count(3)", x.count(3), 12);
        Check.feed(x, "fuel 12;");
        check.due("all of it", x.back(8), 0);
        check.due("read()", x.read(), 0);
        check.due("count(3)", x.count(3), 100);
        // What comes then stands where the others stood.
        Check.feed(x, "fuel 12;row");
        check.due("back(3)", x.back(3), 8);
        Check.feed(x, "fuel 13;");
        check.due("count(5)", x.count(5), 16);
        check.due("read()", x.read(), 0);
        check.due("count(3)", x.count(3), 13);
        x = Busy.withTape(2000);
        check.due("back(2000)", x.back(2000), 0);
        edges.heeded("back(1)", Busy::made, y -> y.back(1), 27);
    }

    private static void backRefused() {
        for (int n : new int[] {-2147483648, -20, -1, 29, 30, 2000, 2147483647}) {
            asks("back(" + n + ")", x -> x.back(n), -1);
        }
        asks("back(0)", x -> x.back(0), 28);
        edges.heeded("back(28)", Busy::made, x -> x.back(28), 0);
        edges.refused("back(1) of nothing", MiceEngine::new, x -> x.back(1), -1);
        edges.refused("back(2001)", () -> Busy.withTape(2000), x -> x.back(2001), -1);
        edges.refused("back(-1)", () -> Busy.withTape(2000), x -> x.back(-1), -1);
        check.due("back(2000)", Busy.withTape(2000).back(2000), 0);
        check.due("back(1999)", Busy.withTape(2000).back(1999), 1);
    }

    private static void reads() {
        MiceEngine x = new MiceEngine();
        check.due("read() of nothing", x.read(), 0);
        Check.feed(x, "row a{}row a{}");
        check.due("read()", x.read(), 3);
        check.due("the tape is empty", x.count(5), 0);
        check.due("read() of the empty tape", x.read(), 0);
        Check.feed(x, "row a{}trial;");
        check.due("read()", x.read(), 0);
        check.due("the tape is empty", x.count(5), 0);
        check.due("ROWS", x.count(0), 1);
        check.due("read() again", x.read(), 0);
        check.due("an empty text", x.count(0), 0);
        String[] texts = {"", "=", "trial 1 2 3 4 5 6 7;", "row a{}row a{}", "row a{go x;}", "fuel 0;"};
        for (int fault = 0; fault < texts.length; fault++) {
            Check.feed(x, texts[fault]);
            check.due("read() of " + texts[fault], x.read(), fault);
            check.due("count(5)", x.count(5), 0);
        }
    }

    private static void places() {
        MiceEngine x = new MiceEngine();
        check.due("place() without a read()", x.place(), -1);
        Check.feed(x, "=");
        check.due("place() ahead of the read()", x.place(), -1);
        check.due("read()", x.read(), 1);
        check.due("the first byte", x.place(), 0);
        Check.feed(x, "fuel");
        check.due("it stays", x.place(), 0);
        check.due("read()", x.read(), 1);
        check.due("the text's end", x.place(), 4);
        check.due("read()", x.read(), 0);
        check.due("NONE without", x.place(), -1);
        Check.feed(x, "fuel 0;");
        x.read();
        check.due("at the INT", x.place(), 5);
        x.hold(0);
        x.restore(0);
        x.forget();
        x.back(0);
        check.due("no other call changes it", x.place(), 5);
        Check.feed(x, " ".repeat(1999) + "x");
        check.due("read()", x.read(), 1);
        check.due("the last byte", x.place(), 1999);
        Check.feed(x, " ".repeat(1997) + "row");
        check.due("read()", x.read(), 1);
        check.due("the end of 2000", x.place(), 2000);
        asks("place()", MiceEngine::place, 3);
    }

    private static void lines() {
        int[] due = {1, 5, 0};
        for (int row = 0; row < 3; row++) {
            int r = row;
            asks("lines(" + row + ")", x -> x.lines(r), due[row]);
        }
        for (int row : NO_ROWS) {
            asks("lines(" + row + ")", x -> x.lines(row), -1);
        }
        MiceEngine x = Check.told("row a{}row b{skip;}row c{" + "skip;".repeat(15) + "}row d{" + "skip;".repeat(16) + "}");
        int[] sizes = {0, 1, 15, 16, -1};
        for (int r = 0; r < 5; r++) {
            check.due("lines(" + r + ")", x.lines(r), sizes[r]);
        }
    }

    private static void ofLine() {
        MiceEngine x = Check.told("row e{}row w{set ka 1;add kb in;sub kc kd;mul kd -1;x:div ka 2;out in;go x;if 1<1 y;call e;end;y:skip;}");
        int[] tokens = {3, 3, 3, 4, 5, 2, 2, 5, 2, 1, 3};
        int[] leads = {-1, -1, -1, -1, -1, -1, 4, 10, -1, -1, -1};
        for (int i = 0; i < 11; i++) {
            check.due("line(1," + i + ",0)", x.line(1, i, 0), i);
            check.due("line(1," + i + ",1)", x.line(1, i, 1), tokens[i]);
            check.due("line(1," + i + ",2)", x.line(1, i, 2), leads[i]);
        }
        check.due("take y", x.take(1, 10), 10);
        check.due("none has the NAME", x.line(1, 7, 2), -2);
        check.due("put x ahead of all", x.put(1, 4, 0), 11);
        check.due("go x leads there now", x.line(1, 7, 2), 0);
        check.due("take it", x.take(1, 0), 10);
        check.due("go x", x.line(1, 6, 2), 4);
        check.due("take x", x.take(1, 4), 9);
        check.due("none has the NAME", x.line(1, 5, 2), -2);
        // The longest LINE there is: if with two numbers below 0, and a NAME.
        x = Check.told("row w{x:if -1==-1 x;x:if in<=ka x;}");
        check.due("9 TOKENS", x.line(0, 0, 1), 9);
        check.due("7 TOKENS", x.line(0, 1, 1), 7);
        check.due("the first of that NAME", x.line(0, 1, 2), 0);
    }

    private static void lineRefused() {
        for (int what : new int[] {-2147483648, -1, 3, 4, 10, 2147483647}) {
            asks("line(1,0," + what + ")", x -> x.line(1, 0, what), -1);
        }
        for (int row : NO_ROWS) {
            asks("line(" + row + ",0,0)", x -> x.line(row, 0, 0), -1);
        }
        for (int line : new int[] {-2147483648, -1, 5, 6, 16, 2147483647}) {
            for (int what = 0; what <= 2; what++) {
                int w = what;
                asks("line(1," + line + "," + what + ")", x -> x.line(1, line, w), -1);
            }
        }
        asks("line(2,0,0) of no LINES", x -> x.line(2, 0, 0), -1);
        // Of a LINE that leads somewhere too.
        MiceEngine y = Check.told("row w{x:go x;if 1<2 x;}");
        for (int what : new int[] {-2147483648, -2, -1, 3, 4, 5, 2147483647}) {
            check.due("of go " + what, y.line(0, 0, what), -1);
            check.due("of if " + what, y.line(0, 1, what), -1);
        }
        asks("line(1,4,0)", x -> x.line(1, 4, 0), 5);
        asks("where out leads", x -> x.line(1, 4, 2), -1);
        asks("where call leads", x -> x.line(1, 3, 2), -1);
        asks("where if leads", x -> x.line(1, 2, 2), 1);
    }

    private interface OfRun {
        long of(MiceEngine x, int row, int lost, int trial);
    }

    /** The RUNS that are none: of no such ROW, no such LOST LINES, no such TRIAL. */
    private static void noRun(String name, OfRun call, long want) {
        for (int row : NO_ROWS) {
            asks(name + " of ROW " + row, x -> call.of(x, row, 0, 0), want);
        }
        for (int lost : new int[] {-2147483648, -2, -1, 32, 33, 64, 65535, 65536, 2147483647}) {
            asks(name + " without " + lost, x -> call.of(x, 1, lost, 0), want);
        }
        asks(name + " of no LINES without one", x -> call.of(x, 2, 1, 0), want);
        for (int trial : NO_TRIALS) {
            asks(name + " in TRIAL " + trial, x -> call.of(x, 1, 0, trial), want);
        }
        check.due(name + " without TRIALS", call.of(Check.told("row w{out 1;}"), 0, 0, 0), want);
    }

    private static void runRefused() {
        noRun("run", (x, r, l, t) -> x.run(r, l, t), -1);
        asks("run(1,31,2)", x -> x.run(1, 31, 2), 0);
        asks("run(1,0,0)", x -> x.run(1, 0, 0), 0);
        asks("run(2,0,2)", x -> x.run(2, 0, 2), 0);
        MiceEngine x = Check.told("row w{out 1;}" + "trial;".repeat(8));
        check.due("run(0,0,7)", x.run(0, 0, 7), 0);
        check.due("run(0,0,8)", x.run(0, 0, 8), -1);
        x = Check.told("row a{}row b{}row c{}row d{out 1;}trial;");
        check.due("run(3,0,0)", x.run(3, 0, 0), 0);
        check.due("run(4,0,0)", x.run(4, 0, 0), -1);
        x = Check.told("row w{end;}row v{x:go x;}row u{div ka 0;}row t{x:out 1;go x;}trial;");
        for (int r = 0; r < 4; r++) {
            check.due("run(" + r + ",0,0)", x.run(r, 0, 0), r);
        }
    }

    private static void afterWhat() {
        MiceEngine x = Check.told("row w{set ka 1;set kb -1;sub kc 1;set kd 9999;out 5;out 6;}trial;");
        int[] due = {2, 6, 1, -1, -1, 9999};
        for (int what = 0; what < 6; what++) {
            check.due("after(0,0,0," + what + ")", x.after(0, 0, 0, what), due[what]);
        }
        check.due("after(0,0,0,-1)", x.after(0, 0, 0, -1), -1);
        check.due("after(0,0,0,6)", x.after(0, 0, 0, 6), -1);
    }

    private static void afterRefused() {
        for (int what = 0; what <= 5; what++) {
            int w = what;
            noRun("after " + what, (x, r, l, t) -> x.after(r, l, t, w), -1);
        }
        for (int what : new int[] {-2147483648, -1, 6, 7, 2147483647}) {
            asks("after(1,0,0," + what + ")", x -> x.after(1, 0, 0, what), -1);
        }
        asks("after(1,0,0,5)", x -> x.after(1, 0, 0, 5), 0);
        asks("after(1,0,0,0)", x -> x.after(1, 0, 0, 0), 3);
    }

    private static void outRefused() {
        noRun("out", (x, r, l, t) -> x.out(r, l, t, 0), NO_NUMBER);
        for (int i : new int[] {-2147483648, -1, 3, 4, 8, 2147483647}) {
            asks("out(1,0,0," + i + ")", x -> x.out(1, 0, 0, i), NO_NUMBER);
        }
        asks("out(1,0,0,2)", x -> x.out(1, 0, 0, 2), 1);
        asks("out(2,0,0,0) of no LINES", x -> x.out(2, 0, 0, 0), NO_NUMBER);
        // A run with more numbers ahead leaves none behind.
        MiceEngine x = Check.told("row w{out 1;out 2;out 3;}trial;");
        check.due("out(0,0,0,2)", x.out(0, 0, 0, 2), 3);
        check.due("out(0,1,0,2)", x.out(0, 1, 0, 2), NO_NUMBER);
        check.due("out(0,7,0,0)", x.out(0, 7, 0, 0), NO_NUMBER);
    }

    private interface OfLost {
        long of(MiceEngine x, int row, int lost);
    }

    private static void noLost(String name, OfLost call) {
        for (int row : NO_ROWS) {
            asks(name + "(" + row + ",0)", x -> call.of(x, row, 0), -1);
        }
        for (int lost : new int[] {-2147483648, -2, -1, 32, 33, 65535, 65536, 2147483647}) {
            asks(name + "(1," + lost + ")", x -> call.of(x, 1, lost), -1);
        }
        asks(name + "(2,1) of no LINES", x -> call.of(x, 2, 1), -1);
        MiceEngine x = Check.told("row w{" + "skip;".repeat(16) + "}trial;");
        check.due(name + "(0,65535)", call.of(x, 0, 65535) == -1, false);
        check.due(name + "(0,65536)", call.of(x, 0, 65536), -1);
    }

    private static void sameRefused() {
        noLost("same", (x, r, l) -> x.same(r, l));
        asks("same(1,31)", x -> x.same(1, 31), 0);
        asks("same(1,4)", x -> x.same(1, 4), 1);
        asks("same(1,0)", x -> x.same(1, 0), 1);
        asks("same(2,0)", x -> x.same(2, 0), 1);
    }

    private static void differs() {
        noLost("differs", (x, r, l) -> x.differs(r, l));
        asks("differs(1,0)", x -> x.differs(1, 0), -2);
        asks("differs(1,4)", x -> x.differs(1, 4), -2);
        asks("differs(1,31)", x -> x.differs(1, 31), 0);
        // Without set ka it puts out 0, as it does in TRIAL 2.
        asks("differs(1,1)", x -> x.differs(1, 1), 0);
        MiceEngine x = Check.told("row w{if in==8 x;out 1;x:skip;}" + "trial;".repeat(7) + "trial 8;");
        check.due("the last TRIAL", x.differs(0, 1), 7);
        check.due("the first TRIAL", x.differs(0, 2), 0);
        check.due("none", x.differs(0, 0), -2);
    }

    private static void noN(String name, OfLost call) {
        for (int row : NO_ROWS) {
            asks(name + "(" + row + ",0)", x -> call.of(x, row, 0), -1);
        }
        for (int n : new int[] {-2147483648, -1, 4, 5, 2147483647}) {
            asks(name + "(1," + n + ")", x -> call.of(x, 1, n), -1);
        }
    }

    private static void bearsRefused() {
        noN("bears", (x, r, n) -> x.bears(r, n));
        asks("bears(1,0)", x -> x.bears(1, 0), 1);
        asks("bears(1,3)", x -> x.bears(1, 3), 0);
        asks("bears(2,3)", x -> x.bears(2, 3), 1);
    }

    private static void breaksRefused() {
        noN("breaks", (x, r, n) -> x.breaks(r, n));
        asks("breaks(1,0)", x -> x.breaks(1, 0), -2);
        asks("breaks(1,1)", x -> x.breaks(1, 1), 1);
        asks("breaks(1,3)", x -> x.breaks(1, 3), 7);
        asks("breaks(2,3)", x -> x.breaks(2, 3), -2);
    }

    private static void harmRefused() {
        for (int row : NO_ROWS) {
            asks("harm(" + row + ",0)", x -> x.harm(row, 0), -1);
        }
        for (int line : new int[] {-2147483648, -1, 5, 6, 16, 32, 2147483647}) {
            asks("harm(1," + line + ")", x -> x.harm(1, line), -1);
        }
        asks("harm(1,4)", x -> x.harm(1, 4), 3);
        asks("harm(1,2)", x -> x.harm(1, 2), 0);
        asks("harm(2,0)", x -> x.harm(2, 0), -1);
    }

    private static void stepRefused() {
        noRun("step", (x, r, l, t) -> x.step(r, l, t, 0), -1);
        // set, out, if, call, out 3 of ROW 0, out: six STEPS.
        int[] due = {20, 21, 22, 23, 0, 24};
        for (int i = 0; i < due.length; i++) {
            int at = i;
            asks("step(1,0,0," + i + ")", x -> x.step(1, 0, 0, at), due[i]);
        }
        for (int i : new int[] {-2147483648, -1, 6, 7, 299, 300, 2147483647}) {
            asks("step(1,0,0," + i + ")", x -> x.step(1, 0, 0, i), -1);
        }
        asks("step(2,0,0,0) of no LINES", x -> x.step(2, 0, 0, 0), -1);
        MiceEngine x = Check.told("row a{}row b{}row c{}row d{" + "skip;".repeat(16) + "}trial;");
        check.due("20 * 3 + 15", x.step(3, 0, 0, 15), 75);
        check.due("none more", x.step(3, 0, 0, 16), -1);
        check.due("after a longer RUN", x.step(3, 1, 0, 15), -1);
    }

    private static void lifeRefused() {
        for (int row : NO_ROWS) {
            asks("life(" + row + ",0,0)", x -> x.life(row, 0, 0), -1);
        }
        for (int law : new int[] {-2147483648, -1, 4, 5, 2147483647}) {
            asks("life(1," + law + ",0)", x -> x.life(1, law, 0), -1);
        }
        for (int seed : new int[] {-2147483648, -1, 0, 1, 2147483647}) {
            asks("life(2,3," + seed + ")", x -> x.life(2, 3, seed), 1);
            asks("life(1,0," + seed + ")", x -> x.life(1, 0, seed), 1);
        }
    }
}
