/** The boundaries that part II names of a RUN: counters, numbers that come in, ints that wrap, jumps, calls, stops. */
public final class EdgesOfRunsTest {
    private static final Edges edges = new Edges();
    private static final Check check = edges.check;
    private static final int NO_NUMBER = -2147483648;
    // Leaves 2147483647 in ka and -2147483648 in kb.
    private static final String LIMITS = "set kb 256;mul kb kb;mul kb 256;mul kb 128;set ka kb;sub ka 1;";

    public static void main(String[] args) {
        edges.sentence("(bits: those that are LOST)", EdgesOfRunsTest::lostBits);
        edges.sentence("counters ka .. kd are 0 at first, OUTPUT is empty.", EdgesOfRunsTest::atFirst);
        edges.sentence("LINE by LINE that is there: each counts one STEP.", EdgesOfRunsTest::steps);
        edges.sentence("in: the next number of the TRIAL (of if: the first V ahead of the second one); 0 if there is none more.",
            EdgesOfRunsTest::noneMore);
        edges.sentence("(of if: the first V ahead of the second one)", EdgesOfRunsTest::firstAhead);
        edges.sentence("Ints of 32 bits that wrap,", EdgesOfRunsTest::wrap);
        edges.sentence("div rounded towards 0.", EdgesOfRunsTest::rounded);
        edges.sentence("out: comes behind the OUTPUT.", EdgesOfRunsTest::behindOutput);
        edges.sentence("on with the first LINE of that ROW that is there and has that NAME; if none is there, with the next one.",
            EdgesOfRunsTest::firstThere);
        edges.sentence("if none is there, with the next one.", EdgesOfRunsTest::noneThere);
        edges.sentence("go, and if when it holds:", EdgesOfRunsTest::whenItHolds);
        edges.sentence("call: that ROW, all of it as it is now, from its first LINE on, then the next LINE here.",
            EdgesOfRunsTest::calls);
        edges.sentence("end, and behind the last LINE: the ROW is over (where it was called from goes on).", EdgesOfRunsTest::over);
        edges.sentence("skip: nothing.", EdgesOfRunsTest::skips);
        edges.sentence("0 the ROW that is run is over;", EdgesOfRunsTest::rowIsOver);
        edges.sentence("1 a STEP more than FUEL would be done;", EdgesOfRunsTest::stepMore);
        edges.sentence("2 div by 0;", EdgesOfRunsTest::byZero);
        edges.sentence("3 a 9th number would go out.", EdgesOfRunsTest::ninthNumber);
        edges.sentence("DOES: how it stops, and the OUTPUT.", EdgesOfRunsTest::does);
        edges.sentence("SAME of a LOST set: in each TRIAL it DOES the same as without losses.", EdgesOfRunsTest::same);
        check.end();
    }

    private static void outputs(MiceEngine x, int row, int lost, int trial, int... due) {
        String of = "(" + row + "," + lost + "," + trial + ")";
        check.due("numbers of run" + of, x.after(row, lost, trial, 0), due.length);
        for (int i = 0; i < due.length; i++) {
            check.due("out" + of + i, x.out(row, lost, trial, i), due[i]);
        }
        check.due("out behind all" + of, x.out(row, lost, trial, due.length), NO_NUMBER);
    }

    private static void lostBits() {
        MiceEngine x = Check.told("row e{}row w{out 1;out 2;out 3;}row v{" + "skip;".repeat(15) + "out 4;}trial;");
        outputs(x, 1, 0, 0, 1, 2, 3);
        outputs(x, 1, 1, 0, 2, 3);
        outputs(x, 1, 2, 0, 1, 3);
        outputs(x, 1, 4, 0, 1, 2);
        outputs(x, 1, 7, 0);
        check.due("run(1,7,0)", x.run(1, 7, 0), 0);
        check.due("run(1,8,0)", x.run(1, 8, 0), -1);
        check.due("run(1,-1,0)", x.run(1, -1, 0), -1);
        check.due("run(0,0,0)", x.run(0, 0, 0), 0);
        check.due("run(0,1,0)", x.run(0, 1, 0), -1);
        outputs(x, 2, 32767, 0, 4);
        outputs(x, 2, 32768, 0);
        check.due("run(2,65535,0)", x.run(2, 65535, 0), 0);
        check.due("run(2,65536,0)", x.run(2, 65536, 0), -1);
        check.due("run(2,-2147483648,0)", x.run(2, -2147483648, 0), -1);
        check.due("run(2,131071,0)", x.run(2, 131071, 0), -1);
    }

    private static void atFirst() {
        MiceEngine x = Check.told("row w{out ka;out kb;out kc;out kd;set ka 1;set kb 2;set kc 3;set kd 4;}trial;trial 9;");
        outputs(x, 0, 0, 0, 0, 0, 0, 0);
        outputs(x, 0, 0, 1, 0, 0, 0, 0);
        check.due("ka at the end", x.after(0, 0, 0, 2), 1);
        outputs(x, 0, 0, 0, 0, 0, 0, 0);
        for (int what = 2; what <= 5; what++) {
            check.due("of no LINES", x.after(0, 255, 0, what), 0);
        }
        // Each RUN takes the TRIAL's numbers anew.
        x = Check.told("row w{out in;}trial 7;");
        outputs(x, 0, 0, 0, 7);
        outputs(x, 0, 0, 0, 7);
    }

    private static void steps() {
        MiceEngine x = Check.told("row w{set ka 1;add ka 1;sub ka 1;mul ka 1;div ka 1;out 1;go x;x:if 1<0 x;skip;end;skip;}trial;");
        check.due("one for each", x.after(0, 0, 0, 1), 10);
        for (int i = 0; i < 10; i++) {
            check.due("step(0,0,0," + i + ")", x.step(0, 0, 0, i), i);
        }
        check.due("not so many", x.step(0, 0, 0, 10), -1);
        check.due("none for a lost one", x.after(0, 1, 0, 1), 9);
        check.due("none for all lost", x.after(0, 2047, 0, 1), 0);
        check.due("no STEP at all", x.step(0, 2047, 0, 0), -1);
        check.due("without end", x.after(0, 512, 0, 1), 10);
        check.due("the STEP behind end", x.step(0, 512, 0, 9), 10);
    }

    private static void noneMore() {
        MiceEngine x = Check.told("row w{out in;out in;out in;}trial;trial 4;trial 4 5;trial 4 5 6;trial 4 5 6 7;");
        outputs(x, 0, 0, 0, 0, 0, 0);
        outputs(x, 0, 0, 1, 4, 0, 0);
        outputs(x, 0, 0, 2, 4, 5, 0);
        outputs(x, 0, 0, 3, 4, 5, 6);
        outputs(x, 0, 0, 4, 4, 5, 6);
        outputs(x, 0, 1, 1, 4, 0);
        x = Check.told("row w{set ka 5;div ka in;out ka;}trial;trial 2;");
        check.due("div by none more", x.run(0, 0, 0), 2);
        check.due("div by 2", x.run(0, 0, 1), 0);
        x = Check.told("row w{set ka 9;set ka in;out ka;set kb 5;mul kb in;out kb;if in==0 x;out 1;x:skip;}trial;");
        outputs(x, 0, 0, 0, 0, 0);
        // What is given is not what comes in.
        x = Check.told("row w{out in;}trial gives 8;");
        outputs(x, 0, 0, 0, 0);
    }

    private static void firstAhead() {
        MiceEngine x = Check.told("row w{if in<in x;out 1;x:out in;}trial 1 2 3;trial 2 1 3;trial 1;trial -1;");
        outputs(x, 0, 0, 0, 3);
        outputs(x, 0, 0, 1, 1, 3);
        outputs(x, 0, 0, 2, 1, 0);
        outputs(x, 0, 0, 3, 0);
        x = Check.told("row w{if 1<in x;out 1;x:out in;}trial 2 3;trial 1 3;");
        outputs(x, 0, 0, 0, 3);
        outputs(x, 0, 0, 1, 1, 3);
        x = Check.told("row w{if in<2 x;out 1;x:out in;}trial 1 3;trial 2 3;");
        outputs(x, 0, 0, 0, 3);
        outputs(x, 0, 0, 1, 1, 3);
    }

    private static void wrap() {
        int max = 2147483647;
        int min = -2147483648;
        MiceEngine x = Check.told("row w{" + LIMITS + "out ka;out kb;add ka 1;out ka;sub kb 1;out kb;}trial;");
        outputs(x, 0, 0, 0, max, min, min, max);
        x = Check.told("row w{" + LIMITS + "mul ka 2;out ka;mul kb 2;out kb;}trial;");
        outputs(x, 0, 0, 0, -2, 0);
        x = Check.told("row w{" + LIMITS + "mul ka ka;out ka;mul kb -1;out kb;add kb kb;out kb;}trial;");
        outputs(x, 0, 0, 0, 1, min, 0);
        x = Check.told("row w{" + LIMITS + "div kb -1;out kb;div ka -1;out ka;}trial;");
        outputs(x, 0, 0, 0, min, -max);
        x = Check.told("row w{" + LIMITS + "add ka ka;out ka;sub kb ka;out kb;}trial;");
        outputs(x, 0, 0, 0, -2, min + 2);
        // Tests are of the ints as they are: max is not below min.
        x = Check.told("row w{" + LIMITS + "if kb<ka x;out 1;x:if ka<kb y;out 2;y:out kb;}trial;");
        outputs(x, 0, 0, 0, 2, min);
        x = Check.told("row w{" + LIMITS + "if kb<=ka x;out 1;x:if ka<=kb y;out 2;y:skip;}trial;");
        outputs(x, 0, 0, 0, 2);
        check.due("ka at the end", x.after(0, 0, 0, 2), max);
        check.due("kb at the end", x.after(0, 0, 0, 3), min);
    }

    private static void rounded() {
        int[][] due = {{7, 2, 3}, {-7, 2, -3}, {7, -2, -3}, {-7, -2, 3}, {6, 2, 3}, {-6, 2, -3}, {1, 2, 0}, {-1, 2, 0},
            {1, -2, 0}, {0, 5, 0}, {9999, 1, 9999}, {9999, -1, -9999}, {9998, 9999, 0}, {-9999, 9998, -1}};
        for (int[] d : due) {
            MiceEngine x = Check.told("row w{set ka in;div ka in;out ka;}trial " + d[0] + " " + d[1] + ";");
            outputs(x, 0, 0, 0, d[2]);
        }
    }

    private static void behindOutput() {
        MiceEngine x = Check.told("row w{out 3;out 1;out 2;out 1;}trial;");
        outputs(x, 0, 0, 0, 3, 1, 2, 1);
        check.due("out ahead of all", x.out(0, 0, 0, -1), NO_NUMBER);
        outputs(x, 0, 2, 0, 3, 2, 1);
    }

    private static void firstThere() {
        MiceEngine x = Check.told("row w{go x;out 1;x:out 2;end;x:out 3;end;x:out 4;}trial;");
        outputs(x, 0, 0, 0, 2);
        outputs(x, 0, 4, 0, 3);
        outputs(x, 0, 4 + 16, 0, 4);
        outputs(x, 0, 16, 0, 2);
        check.due("line(0,0,2)", x.line(0, 0, 2), 2);
        // Ahead of the jump as well, though one stands behind it.
        x = Check.told("row w{x:add ka 1;out ka;if ka<3 x;end;x:out 9;}trial;");
        outputs(x, 0, 0, 0, 1, 2, 3);
        outputs(x, 0, 1, 0, 0, 9);
        // To itself: the LINE of the jump has the NAME.
        x = Check.told("row w{x:go x;}trial;fuel 4;");
        check.due("round and round", x.after(0, 0, 0, 1), 4);
        check.due("the first and the last LINE", Check.told("row w{go x;" + "out 1;".repeat(14) + "x:out 2;}trial;").after(0, 0, 0, 1), 2);
    }

    private static void noneThere() {
        MiceEngine x = Check.told("row w{go x;out 1;x:out 2;end;x:out 3;}trial;");
        outputs(x, 0, 4 + 16, 0, 1);
        x = Check.told("row w{if 1==1 x;out 1;end;x:out 2;}trial;");
        outputs(x, 0, 0, 0, 2);
        outputs(x, 0, 8, 0, 1);
        // The jump is the last LINE: the ROW is over then.
        x = Check.told("row w{x:out 1;go x;}trial;");
        check.due("run(0,0,0)", x.run(0, 0, 0), 3);
        check.due("run(0,1,0)", x.run(0, 1, 0), 0);
        check.due("one STEP", x.after(0, 1, 0, 1), 1);
        // The next one is lost as well: the one behind it.
        x = Check.told("row w{go x;out 1;x:out 2;out 3;}trial;");
        outputs(x, 0, 2 + 4, 0, 3);
        // The NAME is taken out of the ROW.
        x.take(0, 2);
        outputs(x, 0, 0, 0, 1, 3);
    }

    private static void whenItHolds() {
        String[] tests = {"==", "!=", "<", "<="};
        boolean[][] due = {{false, true, false}, {true, false, true}, {true, false, false}, {true, true, false}};
        for (int i = 0; i < 4; i++) {
            for (int first = -1; first <= 1; first++) {
                MiceEngine x = Check.told("row w{if in" + tests[i] + "0 x;out 1;x:skip;}trial " + first + ";");
                check.due(first + tests[i] + "0", x.after(0, 0, 0, 0), due[i][first + 1] ? 0 : 1);
                check.due("STEPS of " + first + tests[i] + "0", x.after(0, 0, 0, 1), due[i][first + 1] ? 2 : 3);
            }
        }
    }

    private static void calls() {
        MiceEngine x = Check.told("row a{out 1;x:out 2;}row b{out 5;call a;out 3;}row c{call b;call a;}row d{call c;x:out 4;}trial;");
        outputs(x, 1, 0, 0, 5, 1, 2, 3);
        outputs(x, 3, 0, 0, 5, 1, 2, 3, 1, 2, 4);
        // The LOST bits are of the ROW that is run alone.
        outputs(x, 1, 1, 0, 1, 2, 3);
        outputs(x, 1, 2, 0, 5, 3);
        outputs(x, 2, 1, 0, 1, 2);
        outputs(x, 3, 1, 0, 4);
        x.take(0, 0);
        outputs(x, 3, 0, 0, 5, 2, 3, 2, 4);
        x.put(0, 0, 0);
        outputs(x, 1, 0, 0, 5, 2, 2, 3);
        x.take(0, 0);
        x.take(0, 0);
        outputs(x, 1, 0, 0, 5, 3);
        check.due("a ROW of no LINES costs its call alone", x.after(1, 0, 0, 1), 3);
        // A called ROW begins at its first LINE each time, and goes on with the counters as they are.
        x = Check.told("row a{add ka 1;if ka==2 x;out 1;x:out 2;}row w{call a;call a;out ka;}trial;");
        outputs(x, 1, 0, 0, 1, 2, 2, 2);
        // The call is the last LINE, or all behind it are lost.
        outputs(x, 1, 6, 0, 1, 2);
        check.due("run(1,6,0)", x.run(1, 6, 0), 0);
    }

    private static void over() {
        MiceEngine x = Check.told("row a{out 1;end;out 2;}row w{call a;out 3;end;out 4;}trial;");
        outputs(x, 0, 0, 0, 1);
        outputs(x, 1, 0, 0, 1, 3);
        outputs(x, 1, 4, 0, 1, 3, 4);
        check.due("run(1,0,0)", x.run(1, 0, 0), 0);
        check.due("run(1,4,0)", x.run(1, 4, 0), 0);
        x = Check.told("row a{end;}row b{call a;end;}row c{call b;call b;out 1;}trial;");
        outputs(x, 2, 0, 0, 1);
        x = Check.told("row w{end;}trial;");
        check.due("end alone", x.after(0, 0, 0, 1), 1);
        check.due("end lost", x.after(0, 1, 0, 1), 0);
    }

    private static void skips() {
        MiceEngine x = Check.told("row w{set ka 1;set kb 2;skip;out ka;}trial;");
        outputs(x, 0, 0, 0, 1);
        outputs(x, 0, 4, 0, 1);
        check.due("a STEP all the same", x.after(0, 0, 0, 1), 4);
        check.due("kb", x.after(0, 0, 0, 3), 2);
    }

    private static void rowIsOver() {
        MiceEngine x = Check.told("row e{}row w{skip;skip;call e;}trial;fuel 3;");
        check.due("of no LINES", x.run(0, 0, 0), 0);
        check.due("with just its FUEL", x.run(1, 0, 0), 0);
        check.due("STEPS", x.after(1, 0, 0, 1), 3);
        check.due("all lost", x.run(1, 7, 0), 0);
        // Behind the last STEP only lost LINES are left.
        x = Check.told("row w{skip;skip;skip;skip;}trial;fuel 3;");
        check.due("run(0,0,0)", x.run(0, 0, 0), 1);
        check.due("run(0,8,0)", x.run(0, 8, 0), 0);
        check.due("run(0,1,0)", x.run(0, 1, 0), 0);
    }

    private static void stepMore() {
        String text = "row w{skip;skip;skip;out 1;}trial;fuel ";
        int[] stops = {1, 1, 1, 0, 0};
        for (int fuel = 1; fuel <= 5; fuel++) {
            MiceEngine x = Check.told(text + fuel + ";");
            check.due("run with " + fuel, x.run(0, 0, 0), stops[fuel - 1]);
            check.due("STEPS with " + fuel, x.after(0, 0, 0, 1), Math.min(fuel, 4));
            check.due("numbers with " + fuel, x.after(0, 0, 0, 0), fuel < 4 ? 0 : 1);
        }
        // STEPS of a called ROW count too; the STEP more may be its first, or the one behind it.
        text = "row a{skip;skip;}row w{call a;out 1;}trial;fuel ";
        int[] called = {1, 1, 1, 0, 0};
        for (int fuel = 1; fuel <= 5; fuel++) {
            MiceEngine x = Check.told(text + fuel + ";");
            check.due("run of a call with " + fuel, x.run(1, 0, 0), called[fuel - 1]);
            check.due("STEPS of a call with " + fuel, x.after(1, 0, 0, 1), Math.min(fuel, 4));
        }
        // What the STEP more would do is not done: neither div by 0 nor a 9th number.
        MiceEngine x = Check.told("row w{skip;div ka 0;}trial;fuel 1;");
        check.due("div by 0 behind the FUEL", x.run(0, 0, 0), 1);
        x = Check.told("row w{" + "out 1;".repeat(9) + "}trial;fuel 8;");
        check.due("a 9th number behind the FUEL", x.run(0, 0, 0), 1);
        check.due("STEPS", x.after(0, 0, 0, 1), 8);
        x = Check.told("row w{x:add ka 1;go x;}trial;fuel 300;");
        check.due("run with 300", x.run(0, 0, 0), 1);
        check.due("STEPS", x.after(0, 0, 0, 1), 300);
        check.due("ka", x.after(0, 0, 0, 2), 150);
    }

    private static void byZero() {
        MiceEngine x = Check.told("row w{set ka 6;out 1;div ka in;out ka;}trial 0;trial 1;trial -1;trial;trial 7;");
        int[] stops = {2, 0, 0, 2, 0};
        for (int t = 0; t < 5; t++) {
            check.due("run(0,0," + t + ")", x.run(0, 0, t), stops[t]);
        }
        check.due("ka stays", x.after(0, 0, 0, 2), 6);
        outputs(x, 0, 0, 0, 1);
        outputs(x, 0, 0, 2, 1, -6);
        check.due("STEPS", x.after(0, 0, 0, 1), 3);
        check.due("with the LINE lost", x.run(0, 4, 0), 0);
        // 0 by 0, a counter by itself, in a called ROW, with just the FUEL.
        x = Check.told("row a{div ka kb;}row w{call a;out 1;}trial;fuel 2;");
        check.due("run(0,0,0)", x.run(0, 0, 0), 2);
        check.due("run(1,0,0)", x.run(1, 0, 0), 2);
        check.due("with the call lost", x.run(1, 1, 0), 0);
        // The same by other orders is nothing to stop for.
        check.due("mul by 0", Check.told("row w{mul ka 0;}trial;").run(0, 0, 0), 0);
    }

    private static void ninthNumber() {
        for (int many = 7; many <= 10; many++) {
            MiceEngine x = Check.told("row w{" + "out 5;".repeat(many) + "}trial;");
            check.due("run of " + many, x.run(0, 0, 0), many > 8 ? 3 : 0);
            check.due("numbers of " + many, x.after(0, 0, 0, 0), Math.min(many, 8));
            check.due("out 7 of " + many, x.out(0, 0, 0, 7), many < 8 ? NO_NUMBER : 5);
            check.due("out 8 of " + many, x.out(0, 0, 0, 8), NO_NUMBER);
            check.due("one lost of " + many, x.run(0, 1, 0), many > 9 ? 3 : 0);
        }
        // In a called ROW as well, with just the FUEL.
        MiceEngine x = Check.told("row a{out 1;out 2;out 3;}row w{call a;call a;call a;}trial;fuel 12;");
        check.due("run(1,0,0)", x.run(1, 0, 0), 3);
        check.due("the 8th", x.out(1, 0, 0, 7), 2);
        check.due("run(1,1,0)", x.run(1, 1, 0), 0);
    }

    private static void does() {
        MiceEngine x = Check.told("row w{set ka 5;skip;out 1;}trial;");
        check.due("counters and STEPS do not count", x.same(0, 3), 1);
        check.due("a number less", x.same(0, 4), 0);
        check.due("another number", Check.told("row w{set ka 5;out ka;}trial;").same(0, 1), 0);
        check.due("another order", Check.told("row w{go x;out 2;x:out 1;out 2;}trial;").same(0, 1), 0);
        check.due("over, not FUEL", Check.told("row w{skip;skip;}trial;fuel 1;").same(0, 1), 0);
        check.due("over, not by 0", Check.told("row w{div ka 0;}trial;").same(0, 1), 0);
        check.due("over, not a 9th number", Check.told("row w{" + "out 1;".repeat(9) + "}trial;").same(0, 1), 0);
        check.due("a 9th number, not over", Check.told("row w{" + "out 1;".repeat(10) + "}trial;").same(0, 1), 1);
        check.due("by 0, not FUEL", Check.told("row w{skip;div ka 0;}trial;fuel 1;").same(0, 1), 0);
        check.due("FUEL both times", Check.told("row w{skip;x:go x;}trial;").same(0, 1), 1);
    }

    private static void same() {
        MiceEngine x = Check.told("row w{if in==3 x;out 1;x:skip;}trial 1;trial 2;trial 3;");
        check.due("in the last TRIAL alone", x.same(0, 1), 0);
        check.due("differs", x.differs(0, 1), 2);
        check.due("no losses", x.same(0, 0), 1);
        check.due("no losses differ", x.differs(0, 0), -2);
        x = Check.told("row w{if in==3 x;out 1;x:skip;}trial 1;trial 2;");
        check.due("in no TRIAL", x.same(0, 1), 1);
        x = Check.told("row w{out 1;div ka 0;}");
        check.due("without TRIALS", x.same(0, 3), 1);
        check.due("without TRIALS", x.differs(0, 3), -2);
        // SAME again with more lost.
        x = Check.told("row w{add ka 1;sub ka 1;out ka;}trial;");
        check.due("one", x.same(0, 1), 0);
        check.due("both", x.same(0, 3), 1);
    }
}
