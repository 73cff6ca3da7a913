import java.util.function.Consumer;
import java.util.function.Supplier;

/** What was asked, told or held ahead leaves nothing behind: an object that did goes on like a twin that never did. */
public final class EdgesOfWhatWasTest {
    private static final Edges edges = new Edges();
    private static final Check check = edges.check;
    private static final String[] TEXTS = {
        "row u{out ka;add kb 1;}row w{set ka in;if ka==2 x;call u;x:out kb;}trial 1 gives 1;trial 2 gives 0;trial gives 0 1;fuel 9;",
        "row u{add kb 1;out ka;}row w{call u;set ka in;if ka<2 x;call u;x:skip;}trial 2 1;trial 1 2;trial 3;",
        "row w{out in;out in;out in;skip;}trial 1 2 3 gives 1 2 3;",
        "row w{out in;out in;out in;skip;}trial 1 2 3;trial gives 0;",
        "row w{out in;out in;out in;skip;}trial 1 gives 1;trial 4 5 6 gives 4 5 6;trial 4;",
        "row w{x:go x;skip;}row v{div kb ka;}row u{call v;}row t{skip;call w;}trial;trial 1 gives;fuel 300;",
        "row w{x:go x;skip;}trial gives;trial;fuel 1;",
        "trial 1 2 3 4 5 6 gives 1 2 3 4 5 6 7 8;trial gives 5;",
        "row t{}row w{}",
        ""};

    public static void main(String[] args) {
        edges.sentence("else it is in place of the one ahead: ROWS as told, nothing is SEEN, SLOTS hold nothing.",
            EdgesOfWhatWasTest::textInPlace);
        edges.sentence("A text with a FAULT changes nothing but the tape;", EdgesOfWhatWasTest::faultyText);
        edges.sentence("LINES can be put in (a copy of a LINE of that ROW, with its NAME, ahead of one, or behind all; 16 at most) and "
            + "taken out;", EdgesOfWhatWasTest::linesPutAndTaken);
        edges.sentence("call: that ROW, all of it as it is now,", EdgesOfWhatWasTest::calledAsItIsNow);
        edges.sentence("They go on from what a SLOT holds (that stays there): true;", EdgesOfWhatWasTest::restored);
        edges.sentence("ROWS and what is SEEN are held in a SLOT (0 .. 2): true;", EdgesOfWhatWasTest::seenIsHeld);
        edges.sentence("All that is SEEN is forgotten: how many there were.", EdgesOfWhatWasTest::forgotten);
        check.end();
    }

    private static void alike(String about, MiceEngine x, MiceEngine twin) {
        String is = Answers.of(x);
        String due = Answers.of(twin);
        check.due(about + ": " + firstOther(due, is), is.equals(due), true);
    }

    private static String firstOther(String due, String is) {
        String[] a = due.split("\n");
        String[] b = is.split("\n");
        for (int i = 0; i < Math.min(a.length, b.length); i++) {
            if (!a[i].equals(b[i])) {
                return "answer " + i + ": " + b[i] + ", due is " + a[i];
            }
        }
        return "";
    }

    private static void textInPlace() {
        for (String first : TEXTS) {
            for (String then : TEXTS) {
                MiceEngine x = Check.told(first);
                Answers.of(x);
                x.see(0, 1, 1);
                x.hold(0);
                Check.feed(x, then);
                check.due("read()", x.read(), 0);
                alike("behind " + first + " " + then, x, Check.told(then));
                check.due("SLOTS hold nothing", x.restore(0), false);
            }
        }
        // A text with a FAULT between the two leaves nothing either.
        for (String then : TEXTS) {
            MiceEngine x = Check.told(TEXTS[0]);
            Check.feed(x, "row q{out 1;}trial 5 gives 6;trial 6 7 gives 8;trial gives 9;fuel 77;row q{}");
            check.due("read()", x.read(), 3);
            Check.feed(x, then);
            check.due("read()", x.read(), 0);
            alike("behind a FAULT " + then, x, Check.told(then));
        }
    }

    private static void faultyText() {
        String[] wrong = {"row q{out 1;}trial 5 gives 6;fuel 7;row q{}", "trial 9 9 9 gives 9;trial;trial;trial;=", "row w{end;",
            "fuel 5;row w{go x;}", "trial 1 2 3 4 5 6 7", "fuel 301;", "row p{}row q{}row r{}row s{}row t{}"};
        for (String text : TEXTS) {
            for (String fault : wrong) {
                MiceEngine x = Check.told(text);
                Answers.of(x);
                Check.feed(x, fault);
                check.due("read() of " + fault, x.read() > 0, true);
                alike(fault + " behind " + text, x, Check.told(text));
            }
        }
    }

    /** Asks all, then changes: the answers are those of a twin that was changed unasked. */
    private static void changed(String text, String how, Consumer<MiceEngine> change) {
        MiceEngine x = Check.told(text);
        Answers.of(x);
        change.accept(x);
        MiceEngine twin = Check.told(text);
        change.accept(twin);
        alike(how + " of " + text, x, twin);
    }

    private static void linesPutAndTaken() {
        for (String text : TEXTS) {
            MiceEngine plain = Check.told(text);
            for (int r = 0; r < plain.count(0); r++) {
                for (int i = 0; i < plain.lines(r); i++) {
                    int row = r;
                    int line = i;
                    changed(text, "take(" + r + "," + i + ")", x -> x.take(row, line));
                    changed(text, "put(" + r + "," + i + ",0)", x -> x.put(row, line, 0));
                    changed(text, "put(" + r + "," + i + ", behind)", x -> x.put(row, line, line + 1));
                }
            }
        }
        // Put in and taken out again, it is the ROW that was told.
        for (int i = 0; i < 4; i++) {
            MiceEngine x = Check.told(TEXTS[0]);
            x.put(1, i, 0);
            Answers.of(x);
            check.due("take(1,0)", x.take(1, 0), 4);
            alike("as it was", x, Check.told(TEXTS[0]));
        }
    }

    private static void calledAsItIsNow() {
        MiceEngine x = Check.told("row a{out 1;}row b{call a;}row c{call b;out 2;}trial gives 1 2;");
        check.due("reached(2)", x.reached(2), 3);
        check.due("idle(2)", x.idle(2), 0);
        check.due("soonest(2)", x.soonest(2), 1);
        check.due("core(2,0)", x.core(2, 0), 2);
        check.due("mean(2,true)", x.mean(2, true), 1);
        check.due("sought(2,2,0)", x.sought(2, 2, 0), 2);
        check.due("most(2,1,0)", x.most(2, 1, 0), 1);
        check.due("does(2,0)", x.does(2, 0), 1);
        // ROW 0 is called by ROW 1 alone, which ROW 2 calls.
        check.due("take(0,0)", x.take(0, 0), 0);
        check.due("idle(2)", x.idle(2), 1);
        check.due("core(2,0)", x.core(2, 0), 1);
        check.due("mean(2,true)", x.mean(2, true), 2);
        check.due("sought(2,2,0)", x.sought(2, 2, 0), -2);
        check.due("suspects", x.suspects(2, 1, 0), 2);
        check.due("most(2,1,0)", x.most(2, 1, 0), 1);
        check.due("does(2,0)", x.does(2, 0), 0);
        // A called ROW jumps by its own LINES, its first one too, whatever is lost of the ROW that calls.
        x = Check.told("row a{x:add ka 1;out ka;if ka<3 x;}row b{y:add ka 1;if 2<ka z;out ka;go y;z:out 9;}row w{skip;call a;}"
            + "row v{skip;call b;}trial;");
        for (int lost = 0; lost <= 1; lost++) {
            check.due("numbers by if", x.after(2, lost, 0, 0), 3);
            check.due("the last by if", x.out(2, lost, 0, 2), 3);
            check.due("numbers by go", x.after(3, lost, 0, 0), 3);
            check.due("the last by go", x.out(3, lost, 0, 2), 9);
        }
    }

    private static void restored() {
        for (String text : TEXTS) {
            for (int slot = 0; slot < 3; slot++) {
                MiceEngine x = Check.told(text);
                x.hold(slot);
                for (int r = 0; r < x.count(0); r++) {
                    x.put(r, 0, 0);
                    x.take(r, x.lines(r) - 1);
                    x.take(r, x.lines(r) - 1);
                }
                Answers.of(x);
                check.due("restore(" + slot + ")", x.restore(slot), true);
                MiceEngine twin = Check.told(text);
                twin.hold(slot);
                alike("restored " + text, x, twin);
            }
        }
    }

    private static final String SIGHTS = "row w{out in;out in;skip;x:out 3;}row v{out 1;skip;}trial 1 2;trial 3 3;trial 4 5;";

    private static MiceEngine seen(int... trialsAndLost) {
        MiceEngine x = Check.told(SIGHTS);
        for (int i = 0; i < trialsAndLost.length; i += 2) {
            x.see(0, trialsAndLost[i], trialsAndLost[i + 1]);
        }
        return x;
    }

    private static void seenIsHeld() {
        int[][] sights = {{}, {0, 1}, {1, 1}, {1, 2, 0, 1}, {2, 8, 0, 8}, {1, 0, 2, 4, 0, 12}, {2, 2, 2, 2}};
        for (int[] one : sights) {
            for (int[] other : sights) {
                MiceEngine x = seen(one);
                x.hold(1);
                x.forget();
                for (int i = 0; i < other.length; i += 2) {
                    x.see(0, other[i], other[i + 1]);
                }
                x.hold(2);
                check.due("restore(1)", x.restore(1), true);
                Supplier<MiceEngine> twin = () -> {
                    MiceEngine y = seen(one);
                    y.hold(0);
                    y.hold(1);
                    return y;
                };
                alike("what SLOT 1 holds", x, twin.get());
                check.due("restore(2)", x.restore(2), true);
                MiceEngine y = seen(other);
                y.hold(0);
                y.hold(1);
                alike("what SLOT 2 holds", x, y);
            }
        }
        // Whose SEEN they are is held as well.
        MiceEngine x = Check.told(SIGHTS);
        x.see(1, 0, 1);
        x.hold(0);
        x.forget();
        x.see(0, 0, 1);
        x.restore(0);
        check.due("of ROW 1", x.suspect(1, 1, 1, 0), 1);
        check.due("not of ROW 0", x.suspects(0, 1, 1), -1);
    }

    private static void forgotten() {
        MiceEngine x = seen(0, 1, 1, 2);
        Answers.of(x);
        check.due("forget()", x.forget(), 2);
        alike("forgotten", x, Check.told(SIGHTS));
        check.due("see(0,2,8)", x.see(0, 2, 8), 0);
        alike("another one", x, seen(2, 8));
    }
}
