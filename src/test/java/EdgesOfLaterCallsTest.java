import java.util.function.ToLongFunction;

/** The boundaries that promises 23 to 40 name, and that refused calls and questions change nothing. */
public final class EdgesOfLaterCallsTest {
    private static final Edges edges = new Edges();
    private static final Check check = edges.check;
    private static final int[] NO_ROWS = {-2147483648, -2, -1, 3, 4, 20, 2147483647};
    private static final int[] NO_TRIALS = {-2147483648, -1, 3, 8, 10, 2147483647};

    public static void main(String[] args) {
        edges.sentence("SOONEST; -2: more than 12 LINES; NONE: no such one.", EdgesOfLaterCallsTest::soonestRefused);
        edges.sentence("WAYS of k (0 .. how many LINES there are); -2: more than 12 LINES; -1: no such ones.",
            EdgesOfLaterCallsTest::waysRefused);
        edges.sentence("MEAN: above (or below) the line; -2, -1 likewise.", EdgesOfLaterCallsTest::meanRefused);
        edges.sentence("CORE: what 0 how many, 1 the LINES (bits); -2: more than 12 LINES; NONE: no such ones.",
            EdgesOfLaterCallsTest::coreRefused);
        edges.sentence("1 if a ROW, without lost LINES, DOES the TABLE, else 0; NONE: no such ones.", EdgesOfLaterCallsTest::doesRefused);
        edges.sentence("SOUGHT: how many LINES; -2: there is none; -3: SPENT; NONE: no such ones.", EdgesOfLaterCallsTest::soughtRefused);
        edges.sentence("The i-th LINE of the row that is SOUGHT; NONE: not so many, it is none, SPENT, no such ones.",
            EdgesOfLaterCallsTest::soughtAtRefused);
        edges.sentence("A copy of a LINE is put ahead of LINE at (how many there are: behind all): how many there are then.",
            EdgesOfLaterCallsTest::puts);
        edges.sentence("NONE, and nothing happens: 16 are there, no such ones.", EdgesOfLaterCallsTest::putRefused);
        edges.sentence("A LINE is taken out: how many are left.", EdgesOfLaterCallsTest::takes);
        edges.sentence("NONE, and nothing happens: no such ones.", EdgesOfLaterCallsTest::takeRefused);
        edges.sentence("It is SEEN of a TRIAL what a ROW DOES without lost LINES: its number.", EdgesOfLaterCallsTest::sees);
        edges.sentence("NONE, and nothing happens: 20 are there, no such ones, one SEEN is of another ROW.",
            EdgesOfLaterCallsTest::seeRefused);
        edges.sentence("All that is SEEN is forgotten: how many there were.", EdgesOfLaterCallsTest::forgets);
        edges.sentence("SUSPECTS of n lost LINES (0 .. 2), as KNOWN by k: how many; NONE: no such ones, k above 0 and it is of another "
            + "ROW.", () -> noSuspicion("suspects", (x, r, n, k) -> x.suspects(r, n, k), 4));
        edges.sentence("The bits of the i-th of them, the least first; NONE: not so many, likewise.",
            EdgesOfLaterCallsTest::suspectRefused);
        edges.sentence("NEXT; -2: no TRIALS, no SUSPECTS; NONE: as for suspects().",
            () -> noSuspicion("next", (x, r, n, k) -> x.next(r, n, k), 0));
        edges.sentence("MOST; -2: more than 4; NONE: as for suspects(). (0 without SUSPECTS.)",
            () -> noSuspicion("most", (x, r, n, k) -> x.most(r, n, k), 0));
        edges.sentence("ROWS and what is SEEN are held in a SLOT (0 .. 2): true; false: no such one.", EdgesOfLaterCallsTest::holds);
        edges.sentence("They go on from what a SLOT holds (that stays there): true;", EdgesOfLaterCallsTest::restores);
        edges.sentence("false, and nothing happens: no such one, nothing is held.", EdgesOfLaterCallsTest::restoreRefused);
        edges.sentence("0 ROWS, 1 TRIALS, 2 those of the TABLE, 3 FUEL, 4 how many are SEEN, 5 bytes on the tape, 6 SLOTS that hold "
            + "something,", EdgesOfLaterCallsTest::counts);
        edges.sentence("10 and a TRIAL: how many numbers it has, 20 and a TRIAL: how many it gives (-2: it is not of the TABLE).",
            EdgesOfLaterCallsTest::countsOfTrials);
        edges.sentence("NONE for others.", EdgesOfLaterCallsTest::countRefused);
        edges.sentence("An object is used for at most 512 calls after it has been made;", EdgesOfLaterCallsTest::calls512);
        check.end();
    }

    private static void asks(String name, ToLongFunction<MiceEngine> call, long want) {
        edges.refused(name, Busy::made, call, want);
    }

    private static void soonestRefused() {
        for (int row : NO_ROWS) {
            asks("soonest(" + row + ")", x -> x.soonest(row), -1);
        }
        asks("soonest(1)", x -> x.soonest(1), 1);
        asks("soonest(2)", x -> x.soonest(2), 0);
        edges.refused("soonest of 12", () -> Busy.withLines(12), x -> x.soonest(0), 0);
        edges.refused("soonest of 13", () -> Busy.withLines(13), x -> x.soonest(0), -2);
        edges.refused("soonest of 16", () -> Busy.withLines(16), x -> x.soonest(0), -2);
        edges.refused("soonest of no such ROW", () -> Busy.withLines(13), x -> x.soonest(2), -1);
    }

    private static void waysRefused() {
        for (int row : NO_ROWS) {
            asks("ways(" + row + ",0)", x -> x.ways(row, 0), -1);
        }
        for (int k : new int[] {-2147483648, -1, 6, 7, 12, 13, 2147483647}) {
            asks("ways(1," + k + ")", x -> x.ways(1, k), -1);
        }
        asks("ways(1,0)", x -> x.ways(1, 0), 1);
        asks("ways(1,1)", x -> x.ways(1, 1), 1);
        asks("ways(1,5)", x -> x.ways(1, 5), 0);
        asks("ways(2,0)", x -> x.ways(2, 0), 1);
        asks("ways(2,1)", x -> x.ways(2, 1), -1);
        edges.refused("ways of 12", () -> Busy.withLines(12), x -> x.ways(0, 12), 479001600);
        edges.refused("ways of 12", () -> Busy.withLines(12), x -> x.ways(0, 13), -1);
        edges.refused("ways of 13", () -> Busy.withLines(13), x -> x.ways(0, 12), -2);
        edges.refused("ways of 13", () -> Busy.withLines(13), x -> x.ways(0, 0), -2);
        edges.refused("ways of no such ROW", () -> Busy.withLines(13), x -> x.ways(2, 0), -1);
    }

    private static void meanRefused() {
        for (int row : NO_ROWS) {
            asks("mean(" + row + ",false)", x -> x.mean(row, false), -1);
            asks("mean(" + row + ",true)", x -> x.mean(row, true), -1);
        }
        asks("mean(2,false)", x -> x.mean(2, false), 1);
        asks("mean(2,true)", x -> x.mean(2, true), 1);
        // 120 + 24 by 120: LINE 2 alone may go.
        asks("mean(1,false)", x -> x.mean(1, false), 6);
        asks("mean(1,true)", x -> x.mean(1, true), 5);
        edges.refused("mean of 12", () -> Busy.withLines(12), x -> x.mean(0, false), 13);
        edges.refused("mean of 13", () -> Busy.withLines(13), x -> x.mean(0, false), -2);
        edges.refused("mean of 13", () -> Busy.withLines(13), x -> x.mean(0, true), -2);
        edges.refused("mean of no such ROW", () -> Busy.withLines(13), x -> x.mean(2, true), -1);
    }

    private static void coreRefused() {
        for (int row : NO_ROWS) {
            asks("core(" + row + ",0)", x -> x.core(row, 0), -1);
        }
        for (int what : new int[] {-2147483648, -1, 2, 3, 2147483647}) {
            asks("core(1," + what + ")", x -> x.core(1, what), -1);
        }
        asks("core(1,0)", x -> x.core(1, 0), 4);
        asks("core(1,1)", x -> x.core(1, 1), 27);
        asks("core(2,0)", x -> x.core(2, 0), 0);
        edges.refused("core of 12", () -> Busy.withLines(12), x -> x.core(0, 0), 0);
        edges.refused("core of 13", () -> Busy.withLines(13), x -> x.core(0, 0), -2);
        edges.refused("core of 13", () -> Busy.withLines(13), x -> x.core(0, 1), -2);
        edges.refused("core of no such ROW", () -> Busy.withLines(13), x -> x.core(2, 1), -1);
    }

    private static void doesRefused() {
        for (int row : NO_ROWS) {
            asks("does(" + row + ",0)", x -> x.does(row, 0), -1);
        }
        for (int lost : new int[] {-2147483648, -1, 32, 33, 65535, 2147483647}) {
            asks("does(1," + lost + ")", x -> x.does(1, lost), -1);
        }
        asks("does(2,1)", x -> x.does(2, 1), -1);
        // The copy of out ka behind all is one number too many.
        asks("does(1,0)", x -> x.does(1, 0), 0);
        asks("does(1,16)", x -> x.does(1, 16), 1);
        asks("does(1,31)", x -> x.does(1, 31), 0);
        MiceEngine x = Check.told("row w{" + "skip;".repeat(16) + "}trial gives;");
        check.due("does(0,65535)", x.does(0, 65535), 1);
        check.due("does(0,65536)", x.does(0, 65536), -1);
    }

    private static void soughtRefused() {
        for (int row : NO_ROWS) {
            asks("sought(" + row + ",1,0)", x -> x.sought(row, 1, 0), -1);
        }
        for (int n : new int[] {-2147483648, -1, 6, 7, 2147483647}) {
            asks("sought(1," + n + ",0)", x -> x.sought(1, n, 0), -1);
        }
        for (int m : new int[] {-2147483648, -1, 2, 2147483647}) {
            asks("sought(1,1," + m + ")", x -> x.sought(1, 1, m), -1);
        }
        asks("sought(1,3,0)", x -> x.sought(1, 3, 0), 3);
        asks("sought(1,5,0)", x -> x.sought(1, 5, 0), 3);
        asks("sought(1,2,0)", x -> x.sought(1, 2, 0), -2);
        asks("sought(1,0,0)", x -> x.sought(1, 0, 0), -2);
        asks("sought(2,5,1)", x -> x.sought(2, 5, 1), -2);
        MiceEngine x = Check.told("row w{" + "skip;".repeat(16) + "}trial gives 1;");
        check.due("none of 3", x.sought(0, 3, 0), -2);
        check.due("SPENT", x.sought(0, 4, 0), -3);
    }

    private static void soughtAtRefused() {
        for (int row : NO_ROWS) {
            asks("soughtAt(" + row + ",3,0,0)", x -> x.soughtAt(row, 3, 0, 0), -1);
        }
        for (int n : new int[] {-2147483648, -1, 6, 2147483647}) {
            asks("soughtAt(1," + n + ",0,0)", x -> x.soughtAt(1, n, 0, 0), -1);
        }
        for (int m : new int[] {-2147483648, -1, 2, 2147483647}) {
            asks("soughtAt(1,3," + m + ",0)", x -> x.soughtAt(1, 3, m, 0), -1);
        }
        int[] due = {0, 1, 3};
        for (int i = 0; i < 3; i++) {
            int at = i;
            asks("soughtAt(1,3,0," + i + ")", x -> x.soughtAt(1, 3, 0, at), due[i]);
        }
        for (int i : new int[] {-2147483648, -1, 3, 4, 5, 2147483647}) {
            asks("soughtAt(1,3,0," + i + ")", x -> x.soughtAt(1, 3, 0, i), -1);
        }
        asks("there is none", x -> x.soughtAt(1, 2, 0, 0), -1);
        MiceEngine x = Check.told("row w{" + "skip;".repeat(15) + "out 1;}trial gives 1 1 1 1;");
        check.due("SPENT", x.soughtAt(0, 4, 0, 0), -1);
        check.due("SPENT", x.soughtAt(0, 4, 0, 3), -1);
        x = Check.told("row w{out 1;}trial gives;");
        check.due("of no LINES", x.soughtAt(0, 5, 0, 0), -1);
        // What another call sought ahead leaves nothing behind.
        x = Check.told("row w{skip;out 1;}row v{skip;}trial gives 1 1;");
        check.due("soughtAt(0,2,0,1)", x.soughtAt(0, 2, 0, 1), 1);
        check.due("soughtAt(1,2,0,1)", x.soughtAt(1, 2, 0, 1), -1);
        check.due("soughtAt(0,1,0,0)", x.soughtAt(0, 1, 0, 0), -1);
        check.due("soughtAt(0,2,1,0)", x.soughtAt(0, 2, 1, 0), -1);
        check.due("soughtAt(0,2,0,0)", x.soughtAt(0, 2, 0, 0), 1);
    }

    private static void puts() {
        for (int at = 0; at <= 3; at++) {
            MiceEngine x = Check.told("row w{set ka 1;add ka 1;out ka;}trial;");
            check.due("put(0,2," + at + ")", x.put(0, 2, at), 4);
            for (int i = 0; i < 4; i++) {
                int order = i == at ? 5 : i < at ? new int[] {0, 1, 5}[i] : new int[] {0, 1, 5}[i - 1];
                check.due("line(0," + i + ",0) with the copy at " + at, x.line(0, i, 0), order);
            }
            check.due("lines(0)", x.lines(0), 4);
        }
        for (int line = 0; line < 3; line++) {
            MiceEngine x = Check.told("row w{set ka 1;add ka 1;out ka;}trial;");
            check.due("put(0," + line + ",0)", x.put(0, line, 0), 4);
            check.due("the copy", x.line(0, 0, 0), new int[] {0, 1, 5}[line]);
            check.due("what it is of", x.line(0, line + 1, 0), new int[] {0, 1, 5}[line]);
        }
        edges.heeded("put(1,4,5)", Busy::made, x -> x.put(1, 4, 5), 6);
        edges.heeded("put(1,0,0)", Busy::made, x -> x.put(1, 0, 0), 6);
        edges.heeded("put of the 16th", () -> Busy.withLines(15), x -> x.put(0, 14, 15), 16);
    }

    private static void putRefused() {
        for (int row : NO_ROWS) {
            asks("put(" + row + ",0,0)", x -> x.put(row, 0, 0), -1);
        }
        for (int line : new int[] {-2147483648, -1, 5, 6, 2147483647}) {
            asks("put(1," + line + ",0)", x -> x.put(1, line, 0), -1);
        }
        for (int at : new int[] {-2147483648, -1, 6, 7, 16, 2147483647}) {
            asks("put(1,0," + at + ")", x -> x.put(1, 0, at), -1);
        }
        asks("put(2,0,0) of no LINES", x -> x.put(2, 0, 0), -1);
        for (int at : new int[] {0, 1, 15, 16}) {
            edges.refused("put to 16 at " + at, () -> Busy.withLines(16), x -> x.put(0, 0, at), -1);
        }
    }

    private static void takes() {
        for (int line = 0; line < 3; line++) {
            MiceEngine x = Check.told("row w{set ka 1;add ka 1;out ka;}trial;");
            check.due("take(0," + line + ")", x.take(0, line), 2);
            check.due("line(0,0,0)", x.line(0, 0, 0), line == 0 ? 1 : 0);
            check.due("line(0,1,0)", x.line(0, 1, 0), line == 2 ? 1 : 5);
            check.due("line(0,2,0)", x.line(0, 2, 0), -1);
        }
        edges.heeded("take(1,4)", Busy::made, x -> x.take(1, 4), 4);
        edges.heeded("take(0,0)", Busy::made, x -> x.take(0, 0), 0);
        edges.heeded("take of the 16th", () -> Busy.withLines(16), x -> x.take(0, 15), 15);
    }

    private static void takeRefused() {
        for (int row : NO_ROWS) {
            asks("take(" + row + ",0)", x -> x.take(row, 0), -1);
        }
        for (int line : new int[] {-2147483648, -1, 5, 6, 16, 2147483647}) {
            asks("take(1," + line + ")", x -> x.take(1, line), -1);
        }
        asks("take(2,0) of no LINES", x -> x.take(2, 0), -1);
        edges.refused("take(0,16)", () -> Busy.withLines(16), x -> x.take(0, 16), -1);
    }

    private static void sees() {
        for (int many = 0; many < 20; many++) {
            int seen = many;
            edges.heeded("see behind " + many, () -> Busy.withSeen(seen), x -> x.see(0, 1, 2), many);
        }
        edges.heeded("see(1,2,31)", Busy::made, x -> x.see(1, 2, 31), 2);
        edges.heeded("see(1,0,0)", Busy::made, x -> x.see(1, 0, 0), 2);
        MiceEngine x = Busy.withSeen(19);
        check.due("see", x.see(0, 0, 3), 19);
        check.due("count(4)", x.count(4), 20);
        check.due("known by 19", x.suspects(0, 1, 19), 1);
        check.due("known by 20", x.suspects(0, 1, 20), 1);
        x = Check.told("row e{}trial;");
        check.due("of no LINES", x.see(0, 0, 0), 0);
    }

    private static void seeRefused() {
        edges.refused("a 21st", () -> Busy.withSeen(20), x -> x.see(0, 0, 0), -1);
        edges.refused("a 21st of another ROW", () -> Busy.withSeen(20), x -> x.see(1, 0, 0), -1);
        for (int row : NO_ROWS) {
            asks("see(" + row + ",0,0)", x -> x.see(row, 0, 0), -1);
        }
        for (int trial : NO_TRIALS) {
            asks("see(1," + trial + ",0)", x -> x.see(1, trial, 0), -1);
        }
        for (int lost : new int[] {-2147483648, -1, 32, 33, 65535, 2147483647}) {
            asks("see(1,0," + lost + ")", x -> x.see(1, 0, lost), -1);
        }
        asks("of another ROW", x -> x.see(0, 0, 0), -1);
        asks("of another ROW, of no LINES", x -> x.see(2, 0, 0), -1);
        edges.refused("of another ROW behind one", () -> Busy.withSeen(1), x -> x.see(1, 0, 0), -1);
        edges.heeded("of another ROW behind none", () -> Busy.withSeen(0), x -> x.see(1, 0, 0), 0);
        edges.refused("without TRIALS", () -> Check.told("row w{out 1;}"), x -> x.see(0, 0, 0), -1);
    }

    private static void forgets() {
        for (int many : new int[] {1, 19, 20}) {
            edges.heeded("forget() of " + many, () -> Busy.withSeen(many), MiceEngine::forget, many);
        }
        edges.refused("forget() of none", () -> Busy.withSeen(0), MiceEngine::forget, 0);
        edges.refused("forget() of a new object", MiceEngine::new, MiceEngine::forget, 0);
        MiceEngine x = Busy.made();
        check.due("forget()", x.forget(), 2);
        check.due("count(4)", x.count(4), 0);
        check.due("known by 1", x.suspects(1, 1, 1), -1);
        check.due("known by 0", x.suspects(1, 1, 0), 5);
        check.due("SLOTS keep theirs", x.restore(2), true);
        check.due("count(4)", x.count(4), 1);
        check.due("forget()", x.forget(), 1);
        check.due("SLOTS keep theirs", x.restore(2), true);
        check.due("count(4)", x.count(4), 1);
    }

    private interface OfSuspicion {
        long of(MiceEngine x, int row, int n, int k);
    }

    private static void noSuspicion(String name, OfSuspicion call, long ofBoth) {
        for (int row : NO_ROWS) {
            asks(name + "(" + row + ",1,0)", x -> call.of(x, row, 1, 0), -1);
        }
        for (int n : new int[] {-2147483648, -1, 3, 4, 2147483647}) {
            asks(name + "(1," + n + ",0)", x -> call.of(x, 1, n, 0), -1);
        }
        for (int k : new int[] {-2147483648, -1, 3, 4, 20, 21, 2147483647}) {
            asks(name + "(1,1," + k + ")", x -> call.of(x, 1, 1, k), -1);
        }
        asks(name + " of another ROW by 1", x -> call.of(x, 0, 1, 1), -1);
        asks(name + " of another ROW by 2", x -> call.of(x, 2, 0, 2), -1);
        for (int n = 0; n <= 2; n++) {
            boolean hasNone = name.equals("suspect");
            check.due(name + " of another ROW by 0", call.of(Busy.made(), 0, n, 0) == -1, hasNone && n == 2);
            check.due(name + " of its own ROW by 2", call.of(Busy.made(), 1, n, 2) == -1, hasNone);
        }
        check.due(name + " of 21", call.of(Busy.withSeen(20), 0, 1, 21), -1);
        check.due(name + " of 20", call.of(Busy.withSeen(20), 0, 1, 20) == -1, false);
        // Two LINES lost of which one is LINE 0: SEEN is that nothing goes out.
        MiceEngine x = Check.told("row w{out 1;skip;skip;skip;skip;}trial;");
        x.see(0, 0, 1);
        check.due(name + " known by 1", call.of(x, 0, 2, 1), ofBoth);
    }

    private static void suspectRefused() {
        noSuspicion("suspect", (x, r, n, k) -> x.suspect(r, n, k, 0), 3);
        int[] due = {1, 2, 4, 8, 16};
        for (int i = 0; i < due.length; i++) {
            int at = i;
            asks("suspect(1,1,0," + i + ")", x -> x.suspect(1, 1, 0, at), due[i]);
        }
        for (int i : new int[] {-2147483648, -1, 5, 6, 120, 2147483647}) {
            asks("suspect(1,1,0," + i + ")", x -> x.suspect(1, 1, 0, i), -1);
        }
        // In TRIAL 0 set ka lost is SEEN, in TRIAL 2 the call: no one LINE does both.
        asks("suspects(1,1,2)", x -> x.suspects(1, 1, 2), 0);
        asks("suspect(1,1,2,0)", x -> x.suspect(1, 1, 2, 0), -1);
        asks("suspects(1,2,2)", x -> x.suspects(1, 2, 2), 0);
        asks("suspects(1,2,1)", x -> x.suspects(1, 2, 1), 1);
        asks("suspect(1,2,1,0)", x -> x.suspect(1, 2, 1, 0), 5);
        asks("suspect(1,2,1,1)", x -> x.suspect(1, 2, 1, 1), -1);
        MiceEngine x = Check.told("row w{out 1;skip;}trial;");
        x.see(0, 0, 2);
        check.due("one left", x.suspect(0, 1, 1, 0), 2);
        check.due("none behind it", x.suspect(0, 1, 1, 1), -1);
    }

    private static void holds() {
        for (int slot : new int[] {-2147483648, -1, 3, 4, 2147483647}) {
            asks("hold(" + slot + ")", x -> Edges.bit(x.hold(slot)), 0);
        }
        for (int slot = 0; slot < 3; slot++) {
            int s = slot;
            edges.heeded("hold(" + slot + ")", Busy::made, x -> Edges.bit(x.hold(s)), 1);
            MiceEngine x = Check.told("row w{skip;}trial;");
            check.due("hold(" + slot + ")", x.hold(slot), true);
            check.due("count(6)", x.count(6), 1);
            check.due("hold(" + slot + ") again", x.hold(slot), true);
            check.due("count(6)", x.count(6), 1);
            for (int other = 0; other < 3; other++) {
                check.due("restore(" + other + ")", x.restore(other), other == slot);
            }
        }
        MiceEngine x = Check.told("row w{skip;}trial;");
        for (int slot = 0; slot < 3; slot++) {
            check.due("hold(" + slot + ")", x.hold(slot), true);
            check.due("count(6)", x.count(6), slot + 1);
        }
        check.due("hold(3)", x.hold(3), false);
        check.due("count(6)", x.count(6), 3);
        // Nothing is told: that can be held too.
        x = new MiceEngine();
        check.due("hold(0)", x.hold(0), true);
        check.due("count(6)", x.count(6), 1);
        check.due("restore(0)", x.restore(0), true);
        check.due("count(0)", x.count(0), 0);
        check.due("restore(1)", x.restore(1), false);
        // The latest hold counts.
        x = Check.told("row w{skip;}trial;");
        x.hold(1);
        x.put(0, 0, 0);
        x.hold(1);
        x.take(0, 0);
        x.take(0, 0);
        check.due("restore(1)", x.restore(1), true);
        check.due("lines(0)", x.lines(0), 2);
    }

    private static void restores() {
        edges.heeded("restore(0)", Busy::made, x -> Edges.bit(x.restore(0)), 1);
        edges.heeded("restore(2)", Busy::made, x -> Edges.bit(x.restore(2)), 1);
        MiceEngine x = Busy.made();
        check.due("lines(0)", x.lines(0), 1);
        check.due("lines(1)", x.lines(1), 5);
        for (int again = 0; again < 2; again++) {
            check.due("restore(2)", x.restore(2), true);
            check.due("lines(0)", x.lines(0), 2);
            check.due("lines(1)", x.lines(1), 4);
            check.due("SEEN", x.count(4), 1);
            check.due("of ROW 0", x.suspects(0, 1, 1), 1);
            check.due("not of ROW 1", x.suspects(1, 1, 1), -1);
            check.due("restore(0)", x.restore(0), true);
            check.due("lines(0)", x.lines(0), 2);
            check.due("lines(1)", x.lines(1), 5);
            check.due("SEEN", x.count(4), 0);
            check.due("SLOTS", x.count(6), 2);
            check.due("what is changed then stays out of the SLOT", x.take(1, 0), 4);
            check.due("see", x.see(1, 0, 0), 0);
        }
        check.due("TRIALS stay", x.count(1), 3);
        check.due("FUEL stays", x.count(3), 60);
        check.due("the tape stays", x.count(5), 28);
        check.due("the FAULT's place stays", x.place(), 3);
        // 20 SEEN, and 16 LINES, come back whole.
        x = Busy.withSeen(20);
        x.hold(0);
        x.forget();
        check.due("restore(0)", x.restore(0), true);
        check.due("SEEN", x.count(4), 20);
        check.due("a 21st", x.see(0, 0, 0), -1);
        check.due("known by 20", x.suspects(0, 1, 20), 1);
        x = Busy.withLines(16);
        x.hold(1);
        for (int i = 16; i > 0; i--) {
            x.take(0, 0);
        }
        check.due("lines(0)", x.lines(0), 0);
        check.due("restore(1)", x.restore(1), true);
        check.due("lines(0)", x.lines(0), 16);
        check.due("put", x.put(0, 0, 0), -1);
    }

    private static void restoreRefused() {
        for (int slot : new int[] {-2147483648, -1, 3, 4, 2147483647}) {
            asks("restore(" + slot + ")", x -> Edges.bit(x.restore(slot)), 0);
        }
        asks("nothing is held", x -> Edges.bit(x.restore(1)), 0);
        for (int slot = 0; slot < 3; slot++) {
            int s = slot;
            edges.refused("restore(" + slot + ") of a new object", MiceEngine::new, x -> Edges.bit(x.restore(s)), 0);
        }
    }

    private static void counts() {
        int[] due = {3, 3, 2, 60, 2, 28, 2};
        for (int what = 0; what < due.length; what++) {
            int w = what;
            asks("count(" + what + ")", x -> x.count(w), due[what]);
        }
        MiceEngine x = Check.told("row a{}row b{}row c{}row d{}" + "trial gives;".repeat(8) + "fuel 300;");
        int[] full = {4, 8, 8, 300, 0, 0, 0};
        for (int what = 0; what < full.length; what++) {
            check.due("count(" + what + ")", x.count(what), full[what]);
        }
        check.due("bytes", Busy.withTape(2000).count(5), 2000);
        check.due("SEEN", Busy.withSeen(20).count(4), 20);
    }

    private static void countsOfTrials() {
        StringBuilder text = new StringBuilder();
        for (int t = 0; t < 8; t++) {
            text.append("trial").append(" 1".repeat(Math.min(t, 6))).append(t == 7 ? "" : " gives" + " 2".repeat(t + 2 > 8 ? 8 : t + 2));
            text.append(';');
        }
        MiceEngine x = Check.told(text.toString());
        int[] numbers = {0, 1, 2, 3, 4, 5, 6, 6};
        int[] gives = {2, 3, 4, 5, 6, 7, 8, -2};
        for (int t = 0; t < 8; t++) {
            check.due("count(" + (10 + t) + ")", x.count(10 + t), numbers[t]);
            check.due("count(" + (20 + t) + ")", x.count(20 + t), gives[t]);
        }
        x = Check.told("trial;trial gives;");
        check.due("not of the TABLE", x.count(20), -2);
        check.due("gives nothing", x.count(21), 0);
        check.due("no such TRIAL", x.count(12), -1);
        check.due("no such TRIAL", x.count(22), -1);
    }

    private static void countRefused() {
        for (int what : new int[] {-2147483648, -10, -1, 7, 8, 9, 13, 14, 17, 18, 19, 23, 24, 27, 28, 29, 30, 100, 2147483647}) {
            asks("count(" + what + ")", x -> x.count(what), -1);
        }
        MiceEngine x = Check.told("trial;".repeat(8));
        for (int what : new int[] {7, 8, 9, 18, 19, 28, 29, 30, 31}) {
            check.due("count(" + what + ") with 8 TRIALS", x.count(what), -1);
        }
        check.due("count(17)", x.count(17), 0);
        check.due("count(27)", x.count(27), -2);
        x = new MiceEngine();
        check.due("count(10) without TRIALS", x.count(10), -1);
        check.due("count(20) without TRIALS", x.count(20), -1);
    }

    /** The 512th call answers as the first one did. */
    private static void calls512() {
        MiceEngine x = new MiceEngine();
        for (int i = 0; i < 25; i++) {
            for (int j = 1; j <= 18; j++) {
                check.due("feed", x.feed(0x736b6970, 0x3b736b69, 0x703b736b, 0x69703b73, 0x6b69703b), 20 * j);
            }
            check.due("read()", x.read(), 1);
            check.due("place()", x.place(), 0);
        }
        // 500 calls so far: row a{out 7;} and blanks, trial; and blanks.
        check.due("feed", x.feed(0x726f7720, 0x617b6f75, 0x7420373b, 0x7d747269, 0x616c3b20), 20);
        check.due("read()", x.read(), 0);
        for (int call = 503; call <= 511; call++) {
            check.due("run", x.run(0, 0, 0), 0);
        }
        check.due("the 512th call", x.out(0, 0, 0, 0), 7);
    }
}
