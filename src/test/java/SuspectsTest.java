/** Promises 34 to 37: what mice may have taken, and which TRIAL tells it. */
public final class SuspectsTest {
    private static final Check check = new Check();
    // Losing the if of i shows in the TRIAL of i only.
    private static final String DECIDER = "row w{set ka in;if ka==0 x;if ka==1 x;if ka==2 x;if ka==3 x;if ka==4 x;"
        + "if ka==5 x;out 7;end;x:out 8;}";

    public static void main(String[] args) {
        suspects();
        next();
        most();
        noSuchOnes();
        afterChanges();
        check.end();
    }

    private static void left(MiceEngine x, int n, int k, int... due) {
        String of = "(0," + n + "," + k + ")";
        check.due("suspects" + of, x.suspects(0, n, k), due.length);
        for (int i = 0; i < due.length; i++) {
            check.due("suspect" + of + i, x.suspect(0, n, k, i), due[i]);
        }
        check.due("suspect behind all", x.suspect(0, n, k, due.length), -1);
        check.due("suspect ahead of all", x.suspect(0, n, k, -1), -1);
    }

    private static void suspects() {
        check.about("promises 34, 35");
        MiceEngine x = Check.told("row w{out 1;skip;out 1;out in;}trial;trial 2;");
        left(x, 0, 0, 0);
        left(x, 1, 0, 1, 2, 4, 8);
        left(x, 2, 0, 3, 5, 6, 9, 10, 12);
        check.due("see", x.see(0, 0, 8), 0);
        check.due("see", x.see(0, 1, 8), 1);
        // 1 1, then 0 of no number: without LINE 0, 2 or 3 it is 1 0 or 1 1.
        left(x, 1, 1, 8);
        left(x, 1, 2, 8);
        left(x, 2, 1, 10);
        left(x, 0, 1);
        left(x, 1, 0, 1, 2, 4, 8);
        check.due("see what contradicts", x.see(0, 1, 0), 2);
        left(x, 1, 2, 8);
        left(x, 1, 3);
        check.due("next", x.next(0, 1, 3), -2);
        check.due("most", x.most(0, 1, 3), 0);
        x.forget();
        check.due("see", x.see(0, 0, 1), 0);
        left(x, 1, 1, 1, 4);
        left(x, 2, 1, 3, 6);
        check.due("see what three lost do", x.see(0, 0, 7), 1);
        left(x, 2, 2);
        x.forget();
        check.due("see what three lost do", x.see(0, 1, 7), 0);
        left(x, 2, 1, 5);
        x = Check.told("row w{skip;}row e{}trial;");
        left(x, 2, 0);
        left(x, 1, 0, 1);
        check.due("suspects of no LINES", x.suspects(1, 0, 0), 1);
        check.due("suspects of no LINES", x.suspects(1, 1, 0), 0);
        x = Check.told("row w{" + "skip;".repeat(16) + "}trial;");
        check.due("120 sets", x.suspects(0, 2, 0), 120);
        check.due("the last of them", x.suspect(0, 2, 0, 119), 32768 + 16384);
        check.due("the 119th", x.suspect(0, 2, 0, 118), 32768 + 8192);
        check.due("none more", x.suspect(0, 2, 0, 120), -1);
    }

    private static void next() {
        check.about("promise 36");
        MiceEngine x = Check.told("row w{set ka in;out ka;if 1<ka x;skip;out 5;x:skip;}trial 0;trial 1;trial 2;trial 3;");
        check.due("next(0,1,0)", x.next(0, 1, 0), nextOf(x));
        x = Check.told("row w{out 1;out 2;}trial;trial 1;");
        check.due("the first of alike ones", x.next(0, 1, 0), 0);
        check.due("of one SUSPECT", x.next(0, 0, 0), 0);
        check.due("of none", x.next(0, 2, 0), 0);
        x.take(0, 0);
        check.due("no SUSPECTS", x.next(0, 2, 0), -2);
        x = Check.told("row w{out 1;out 2;}");
        check.due("no TRIALS", x.next(0, 1, 0), -2);
        // Alike in the TRIAL of 9: the six tests and x; in those of 0 and 1: eight that still put out 8.
        x = Check.told(DECIDER + "trial 0;trial 1;trial 9;trial 8;");
        check.due("the TRIAL of 9", x.next(0, 1, 0), 2);
        check.due("see the test of 1 lost", x.see(0, 1, 4), 0);
        left(x, 1, 1, 4, 512);
        check.due("the TRIAL of 0 tells it from x", x.next(0, 1, 1), 0);
        check.due("see", x.see(0, 0, 4), 1);
        left(x, 1, 2, 4);
        check.due("next of one", x.next(0, 1, 2), 0);
    }

    /** The groups told one by one: sets of one LINE in each TRIAL, by what run() and out() answer. */
    private static int nextOf(MiceEngine x) {
        int best = -1;
        int least = 99;
        for (int t = 0; t < x.count(1); t++) {
            int greatest = 0;
            for (int i = 0; i < x.lines(0); i++) {
                int group = 0;
                for (int j = 0; j < x.lines(0); j++) {
                    group += deed(x, i, t).equals(deed(x, j, t)) ? 1 : 0;
                }
                greatest = Math.max(greatest, group);
            }
            if (greatest < least) {
                least = greatest;
                best = t;
            }
        }
        return best;
    }

    private static String deed(MiceEngine x, int line, int t) {
        StringBuilder made = new StringBuilder().append(x.run(0, 1 << line, t));
        for (int i = 0; i < 8; i++) {
            made.append(' ').append(x.out(0, 1 << line, t, i));
        }
        return made.toString();
    }

    private static void most() {
        check.about("promise 37");
        MiceEngine x = Check.told("row w{set ka in;if ka==0 x;skip;out 7;end;x:out 8;}");
        check.due("no TRIALS", x.most(0, 1, 0), 0);
        x = Check.told("row w{out 1;out 1;skip;}trial;");
        check.due("told at once", x.most(0, 1, 0), 1);
        check.due("of no loss", x.most(0, 0, 0), 0);
        x = Check.told("row w{skip;skip;skip;}trial;");
        check.due("all DO the same", x.most(0, 1, 0), 0);
        check.due("all DO the same", x.most(0, 2, 0), 0);
        int[] due = {1, 2, 3, 4, -2, -2};
        for (int tests = 1; tests <= 6; tests++) {
            x = Check.told(oneByOne(tests));
            check.due("most of " + tests + " tests", x.most(0, 1, 0), due[tests - 1]);
        }
        x = Check.told(oneByOne(5));
        check.due("see", x.see(0, 0, 1 << 1), 0);
        check.due("known by 0", x.most(0, 1, 0), -2);
        check.due("known by 1: that one or set", x.most(0, 1, 1), 1);
        x.forget();
        check.due("see", x.see(0, 0, 1 << 5), 0);
        check.due("known by 1: one test less", x.most(0, 1, 1), 4);
        check.due("see", x.see(0, 1, 1 << 5), 1);
        check.due("known by 2", x.most(0, 1, 2), 3);
        check.due("known by 0", x.most(0, 1, 0), -2);
    }

    /**
     * The TRIAL of i puts out 0 but for the loss of test i (and of set, or out, which every TRIAL tells), so
     * that the tests must be asked one by one.
     */
    private static String oneByOne(int tests) {
        StringBuilder text = new StringBuilder("row w{set ka in;");
        for (int i = 1; i <= tests; i++) {
            text.append("if ka==").append(i).append(" x;");
        }
        text.append("set kb 1;set kb 2;x:out kb;}");
        for (int i = 1; i <= tests; i++) {
            text.append("trial ").append(i).append(";");
        }
        return text.toString();
    }

    private static void noSuchOnes() {
        check.about("no such ones");
        MiceEngine x = Check.told("row v{skip;out 2;}row w{skip;out 1;}trial;");
        x.see(1, 0, 1);
        int[][] wrong = {{-1, 1, 0}, {2, 1, 0}, {0, -1, 0}, {0, 3, 0}, {1, 1, 2}, {1, 1, -1}, {0, 1, 1}, {0, 1, 2}};
        for (int[] w : wrong) {
            String of = w[0] + "," + w[1] + "," + w[2];
            check.due("suspects " + of, x.suspects(w[0], w[1], w[2]), -1);
            check.due("suspect " + of, x.suspect(w[0], w[1], w[2], 0), -1);
            check.due("next " + of, x.next(w[0], w[1], w[2]), -1);
            check.due("most " + of, x.most(w[0], w[1], w[2]), -1);
        }
        check.due("k 0 of another ROW", x.suspects(0, 1, 0), 2);
        check.due("next", x.next(0, 1, 0), 0);
        check.due("most", x.most(0, 1, 0), 1);
        check.due("its own ROW", x.suspects(1, 1, 1), 1);
    }

    private static void afterChanges() {
        check.about("after changes");
        MiceEngine x = Check.told("row a{out 1;}row w{call a;skip;}trial;");
        check.due("most(1,1,0)", x.most(1, 1, 0), 1);
        x.see(1, 0, 1);
        check.due("suspects(1,1,1)", x.suspects(1, 1, 1), 1);
        x.hold(2);
        x.take(0, 0);
        check.due("nothing is SEEN", x.suspects(1, 1, 1), -1);
        check.due("most(1,1,0)", x.most(1, 1, 0), 0);
        x.see(1, 0, 1);
        check.due("suspects(1,1,1)", x.suspects(1, 1, 1), 2);
        x.restore(2);
        check.due("suspects(1,1,1)", x.suspects(1, 1, 1), 1);
        check.due("suspect(1,1,1,0)", x.suspect(1, 1, 1, 0), 1);
        check.due("most(1,1,0)", x.most(1, 1, 0), 1);
    }
}
