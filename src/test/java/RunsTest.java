/** Promises 8 to 10, 20, 21: RUNS. */
public final class RunsTest {
    private static final Check check = new Check();
    private static final int NO_NUMBER = -2147483648;

    public static void main(String[] args) {
        reckoning();
        whatComesIn();
        tests();
        jumps();
        calls();
        stops();
        noSuchOnes();
        check.end();
    }

    private static void outputs(String text, int lost, int... due) {
        MiceEngine x = Check.told(text);
        int row = x.count(0) - 1;
        check.about(text + " without " + lost);
        check.due("after(.., 0)", x.after(row, lost, 0, 0), due.length);
        for (int i = 0; i < due.length; i++) {
            check.due("out(.., " + i + ")", x.out(row, lost, 0, i), due[i]);
        }
        check.due("out behind all", x.out(row, lost, 0, due.length), NO_NUMBER);
        check.due("out ahead of all", x.out(row, lost, 0, -1), NO_NUMBER);
    }

    private static void reckoning() {
        outputs("row w{out ka;set ka 7;out ka;add ka -9;out ka;sub ka 5;out ka;mul ka ka;out ka;div ka -2;out ka;}trial;",
            0, 0, 7, -2, -7, 49, -24);
        outputs("row w{set ka 7;div ka 2;out ka;set ka -7;div ka 2;out ka;set ka -7;div ka -2;out ka;}trial;", 0, 3, -3, 3);
        // 9999 * 9999 * 9999 wraps, and so do the least int less 1 and the least int by -1.
        outputs("row w{set ka 9999;mul ka 9999;mul ka 9999;out ka;set kb 256;mul kb kb;mul kb 4096;mul kb 8;"
            + "out kb;div kb -1;out kb;sub kb 1;out kb;}trial;",
            0, (int) (9999L * 9999 * 9999), -2147483648, -2147483648, 2147483647);
        outputs("row w{set ka 1;set kb 2;set kc 3;set kd 4;out kd;out kc;out kb;out ka;}trial;", 0, 4, 3, 2, 1);
        MiceEngine x = Check.told("row w{set ka 1;sub kb 1;set kc 3;set kd -4;}trial;");
        check.about("counters at the end");
        int[] due = {0, 4, 1, -1, 3, -4};
        for (int what = 0; what < 6; what++) {
            check.due("after(0,0,0," + what + ")", x.after(0, 0, 0, what), due[what]);
        }
        check.due("after(0,1,0,2)", x.after(0, 1, 0, 2), 0);
        check.due("after(0,0,0,6)", x.after(0, 0, 0, 6), -1);
        check.due("after(0,0,0,-1)", x.after(0, 0, 0, -1), -1);
    }

    private static void whatComesIn() {
        outputs("row w{out in;out in;out in;}trial 5 -6;", 0, 5, -6, 0);
        outputs("row w{set ka in;add ka in;sub ka in;mul ka in;div ka in;out ka;}trial 9 3 2 4 5;", 0, 8);
        outputs("row w{if in<in x;out 1;x:out in;}trial 1 2 3;", 0, 3);
        outputs("row w{if in<in x;out 1;x:out in;}trial 2 1 3;", 0, 1, 3);
        outputs("row w{if 3<in x;out 1;x:out in;}trial 2 1;", 0, 1, 1);
        outputs("row a{out in;}row w{out in;call a;out in;}trial 7 8 9;", 0, 7, 8, 9);
    }

    private static void tests() {
        String[] tests = {"==", "!=", "<", "<="};
        boolean[][] due = {{false, true, false}, {true, false, true}, {true, false, false}, {true, true, false}};
        for (int i = 0; i < 4; i++) {
            for (int j = 0; j < 3; j++) {
                String text = "row w{set ka -1;add ka " + j + ";if ka" + tests[i] + "0 x;end;x:out 1;}trial;";
                outputs(text, 0, due[i][j] ? new int[] {1} : new int[0]);
            }
        }
    }

    private static void jumps() {
        String text = "row w{go x;out 1;x:out 2;end;x:out 3;}trial;";
        outputs(text, 0, 2);
        outputs(text, 1, 1, 2);
        outputs(text, 4, 3);
        outputs(text, 4 + 16, 1);
        outputs(text, 8, 2, 3);
        outputs(text, 31);
        outputs(text, 16, 2);
        String back = "row w{x:add ka 1;out ka;if ka<3 x;}trial;";
        outputs(back, 0, 1, 2, 3);
        outputs(back, 1, 0);
        outputs(back, 4, 1);
        // Of a NAME told twice the first one counts, also behind the jump.
        outputs("row w{add ka 1;if 5<ka e;out ka;x:add ka 2;x:add ka 1;if ka<6 x;e:end;}trial;", 0, 1);
    }

    private static void calls() {
        String text = "row a{add ka 1;out ka;if ka<2 x;out 9;x:end;out 8;}row b{call a;call a;}row w{call b;out 7;call a;}trial;";
        outputs(text, 0, 1, 2, 9, 7, 3, 9);
        outputs(text, 1, 7, 1);
        outputs(text, 2, 1, 2, 9, 3, 9);
        MiceEngine x = Check.told(text);
        check.about(text);
        int[] steps = {40, 20, 0, 1, 2, 4, 21, 0, 1, 2, 3, 4, 41, 42, 0, 1, 2, 3, 4};
        check.due("after(2,0,0,1)", x.after(2, 0, 0, 1), steps.length);
        for (int i = 0; i < steps.length; i++) {
            check.due("step(2,0,0," + i + ")", x.step(2, 0, 0, i), steps[i]);
        }
        check.due("step behind all", x.step(2, 0, 0, steps.length), -1);
        check.due("step ahead of all", x.step(2, 0, 0, -1), -1);
        check.due("step(2,1,0,0)", x.step(2, 1, 0, 0), 41);
        check.due("reached(0)", x.reached(0), 1 + 2 + 4 + 16);
        check.due("reached(1)", x.reached(1), 3);
        check.due("reached(2)", x.reached(2), 7);
        x.take(0, 4);
        check.due("what is called is as it is now", x.after(2, 0, 0, 0), 8);
        check.due("no LINE has the NAME", x.out(2, 0, 0, 1), 9);
        check.due("end is gone", x.out(2, 0, 0, 2), 8);
        check.due("a 9th number", x.run(2, 0, 0), 3);
        outputs("row a{}row b{call a;}row c{call b;call b;}row d{call c;call a;out 1;}trial;", 0, 1);
        outputs("row a{out 1;}row b{call a;out 2;}row c{call b;out 3;}row d{call c;out 4;call a;}trial;", 0, 1, 2, 3, 4, 1);
        // A called ROW has all its LINES, and jumps by its own NAMES.
        outputs("row a{go x;out 1;x:out 2;}row w{call a;go x;out 3;x:out 4;}trial;", 4, 2, 4);
        check.about("reached with several trials");
        x = Check.told("row w{if in==1 x;out 1;end;x:div ka in;out 2;}trial 0;trial 1;");
        check.due("reached(0)", x.reached(0), 15);
        x = Check.told("row w{skip;}");
        check.due("reached(0) without trials", x.reached(0), 0);
    }

    private static void stops() {
        check.about("stops");
        MiceEngine x = Check.told("row w{out 1;set ka 5;div ka in;out ka;}trial 0;trial 2;");
        check.due("run by 0", x.run(0, 0, 0), 2);
        check.due("steps", x.after(0, 0, 0, 1), 3);
        check.due("ka", x.after(0, 0, 0, 2), 5);
        check.due("last step", x.step(0, 0, 0, 2), 2);
        check.due("numbers", x.after(0, 0, 0, 0), 1);
        check.due("run", x.run(0, 0, 1), 0);
        x = Check.told("row w{x:out 1;go x;}trial;");
        check.due("run of a 9th number", x.run(0, 0, 0), 3);
        check.due("numbers", x.after(0, 0, 0, 0), 8);
        check.due("steps", x.after(0, 0, 0, 1), 17);
        check.due("the last step", x.step(0, 0, 0, 16), 0);
        x = Check.told("row w{" + "out 1;".repeat(8) + "}trial;fuel 8;");
        check.due("run of 8 numbers", x.run(0, 0, 0), 0);
        x = Check.told("row a{skip;}row w{call a;skip;call a;}trial;fuel 5;");
        check.due("run of just its FUEL", x.run(1, 0, 0), 0);
        check.due("steps", x.after(1, 0, 0, 1), 5);
        x = Check.told("row a{skip;}row w{call a;skip;call a;skip;}trial;fuel 5;");
        check.due("run of a STEP more", x.run(1, 0, 0), 1);
        check.due("steps", x.after(1, 0, 0, 1), 5);
        check.due("without the last", x.run(1, 8, 0), 0);
        check.due("without the first", x.run(1, 1, 0), 0);
        x = Check.told("row w{x:go x;}trial;");
        check.due("run with 100", x.run(0, 0, 0), 1);
        check.due("steps", x.after(0, 0, 0, 1), 100);
        check.due("step 99", x.step(0, 0, 0, 99), 0);
        check.due("step 100", x.step(0, 0, 0, 100), -1);
        x = Check.told("row w{x:add ka 1;go x;}trial;fuel 300;");
        check.due("run with 300", x.run(0, 0, 0), 1);
        check.due("ka", x.after(0, 0, 0, 2), 150);
        check.due("step 299", x.step(0, 0, 0, 299), 1);
        x = Check.told("row w{x:add ka 1;if ka<150 x;}trial;fuel 300;");
        check.due("run of just 300", x.run(0, 0, 0), 0);
        check.due("steps", x.after(0, 0, 0, 1), 300);
        x.put(0, 1, 2);
        check.due("run of 301", x.run(0, 0, 0), 1);
        x = Check.told("row e{}trial;fuel 1;");
        check.due("run of no LINES", x.run(0, 0, 0), 0);
        check.due("steps", x.after(0, 0, 0, 1), 0);
    }

    private static void noSuchOnes() {
        check.about("no such ones");
        MiceEngine x = Check.told("row e{}row w{out 3;skip;}trial;");
        int[][] wrong = {{-1, 0, 0}, {2, 0, 0}, {1, -1, 0}, {1, 4, 0}, {0, 1, 0}, {1, 0, -1}, {1, 0, 1},
            {1, -2147483648, 0}, {2147483647, 0, 0}, {1, 0, 2147483647}};
        for (int[] w : wrong) {
            String of = w[0] + ", " + w[1] + ", " + w[2];
            check.due("run " + of, x.run(w[0], w[1], w[2]), -1);
            check.due("after " + of, x.after(w[0], w[1], w[2], 0), -1);
            check.due("out " + of, x.out(w[0], w[1], w[2], 0), NO_NUMBER);
            check.due("step " + of, x.step(w[0], w[1], w[2], 0), -1);
        }
        check.due("reached(2)", x.reached(2), -1);
        check.due("reached(-1)", x.reached(-1), -1);
        check.due("run(1,3,0)", x.run(1, 3, 0), 0);
        x = Check.told("row w{" + "skip;".repeat(16) + "}trial;");
        check.due("run(0,65535,0)", x.run(0, 65535, 0), 0);
        check.due("run(0,65536,0)", x.run(0, 65536, 0), -1);
        check.due("step(0,32767,0,0)", x.step(0, 32767, 0, 0), 15);
    }
}
