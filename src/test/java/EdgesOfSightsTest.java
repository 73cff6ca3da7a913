/** The boundaries that part III names of what is SEEN: SUSPECTS, NEXT, MOST. */
public final class EdgesOfSightsTest {
    private static final Edges edges = new Edges();
    private static final Check check = edges.check;
    // Lost alone, LINE 0 or 1 shows in the TRIAL of both, LINE 0 in that of only a, LINE 2 in that of only c; LINE 3 in
    // none, the call in each.
    private static final String FOUR = "row q{if in==1 a;if in==1 c;mul ka kb;a:out ka;end;c:out kc;}"
        + "row w{set ka 1;set kb 1;set kc 1;set kd 1;call q;}";
    private static final String BOTH = "trial 0 0;";
    private static final String ONLY_A = "trial 1;";
    private static final String ONLY_C = "trial 0 1;";

    public static void main(String[] args) {
        edges.sentence("SEEN: the engine has run a ROW that lost n LINES (0 .. 2), nobody knows which:", EdgesOfSightsTest::lostN);
        edges.sentence("of a TRIAL it is SEEN what it DOES (told by a set of LINES: as if these were lost).", EdgesOfSightsTest::toldBySet);
        edges.sentence("SEEN ones are 20 at most, numbered from 0 on;", EdgesOfSightsTest::twentyAtMost);
        edges.sentence("KNOWN by k: the first k.", EdgesOfSightsTest::firstK);
        edges.sentence("SUSPECTS: sets of n LINES of the ROW that DO all that is SEEN.", EdgesOfSightsTest::suspects);
        edges.sentence("the least first", EdgesOfSightsTest::leastFirst);
        edges.sentence("NEXT: of all TRIALS that by which the greatest group of SUSPECTS that DO the same in it is least; of alike ones "
            + "the first.", EdgesOfSightsTest::next);
        edges.sentence("-2: no TRIALS, no SUSPECTS;", EdgesOfSightsTest::noNext);
        edges.sentence("MOST: the fewest TRIALS, each chosen by what those ahead DID, by which in the worst case all SUSPECTS left DO the "
            + "same in all TRIALS; told up to 4.", EdgesOfSightsTest::most);
        edges.sentence("told up to 4", EdgesOfSightsTest::upTo4);
        edges.sentence("each chosen by what those ahead DID", EdgesOfSightsTest::chosenByThoseAhead);
        edges.sentence("(0 without SUSPECTS.)", EdgesOfSightsTest::withoutSuspects);
        edges.sentence("NONE: no such ones, k above 0 and it is of another ROW.", EdgesOfSightsTest::anotherRow);
        check.end();
    }

    private static void left(MiceEngine x, int n, int k, int... due) {
        String of = "(0," + n + "," + k + ")";
        check.due("suspects" + of, x.suspects(0, n, k), due.length);
        for (int i = 0; i < due.length; i++) {
            check.due("suspect" + of + i, x.suspect(0, n, k, i), due[i]);
        }
        check.due("suspect behind all" + of, x.suspect(0, n, k, due.length), -1);
        check.due("suspect ahead of all" + of, x.suspect(0, n, k, -1), -1);
    }

    private static void refused(MiceEngine x, int row, int n, int k) {
        String of = "(" + row + "," + n + "," + k + ")";
        check.due("suspects" + of, x.suspects(row, n, k), -1);
        check.due("suspect" + of, x.suspect(row, n, k, 0), -1);
        check.due("next" + of, x.next(row, n, k), -1);
        check.due("most" + of, x.most(row, n, k), -1);
    }

    private static void lostN() {
        MiceEngine x = Check.told("row w{out 1;out 2;out 3;}row e{}row v{skip;}trial;");
        left(x, 0, 0, 0);
        left(x, 1, 0, 1, 2, 4);
        left(x, 2, 0, 3, 5, 6);
        for (int n : new int[] {-2147483648, -1, 3, 4, 2147483647}) {
            refused(x, 0, n, 0);
        }
        int[][] sizes = {{1, 0, 0}, {1, 1, 0}};
        for (int r = 0; r < 2; r++) {
            for (int n = 0; n <= 2; n++) {
                check.due("suspects(" + (r + 1) + "," + n + ",0)", x.suspects(r + 1, n, 0), sizes[r][n]);
            }
        }
        x = Check.told("row w{" + "skip;".repeat(16) + "}trial;");
        check.due("one of 16", x.suspects(0, 1, 0), 16);
        check.due("two of 16", x.suspects(0, 2, 0), 120);
        check.due("the last one", x.suspect(0, 1, 0, 15), 32768);
        check.due("the last two", x.suspect(0, 2, 0, 119), 49152);
        check.due("no 121st", x.suspect(0, 2, 0, 120), -1);
        check.due("no 17th", x.suspect(0, 1, 0, 16), -1);
    }

    private static void toldBySet() {
        // Any set may tell it, with as many LINES as there are; what is SEEN is what it DOES, not the set.
        MiceEngine x = Check.told("row w{out 1;out 1;out 2;}trial;");
        check.due("see all lost", x.see(0, 0, 7), 0);
        left(x, 2, 1);
        left(x, 1, 1);
        left(x, 0, 1);
        x.forget();
        check.due("see the first lost", x.see(0, 0, 1), 0);
        left(x, 1, 1, 1, 2);
        left(x, 0, 1);
        x.forget();
        check.due("see none lost", x.see(0, 0, 0), 0);
        left(x, 0, 1, 0);
        left(x, 1, 1);
        check.due("no such set", x.see(0, 0, 8), -1);
        check.due("no such set", x.see(0, 0, -1), -1);
        check.due("how many are SEEN", x.count(4), 1);
        // Three lost do what one lost does.
        x = Check.told("row w{skip;skip;skip;out 1;}trial;");
        check.due("see", x.see(0, 0, 7), 0);
        left(x, 1, 1, 1, 2, 4);
        left(x, 2, 1, 3, 5, 6);
        // How it stops is SEEN too.
        x = Check.told("row w{out 1;div ka 0;}trial;");
        check.due("see", x.see(0, 0, 2), 0);
        left(x, 1, 1, 2);
        left(x, 0, 1);
    }

    private static void twentyAtMost() {
        MiceEngine x = Check.told("row w{skip;out 1;}trial;trial 1;");
        for (int i = 0; i < 20; i++) {
            check.due("see", x.see(0, i % 2, 1), i);
            check.due("count(4)", x.count(4), i + 1);
        }
        check.due("a 21st", x.see(0, 0, 1), -1);
        check.due("count(4)", x.count(4), 20);
        check.due("suspects(0,1,20)", x.suspects(0, 1, 20), 1);
        refused(x, 0, 1, 21);
        check.due("forget()", x.forget(), 20);
        check.due("from 0 on again", x.see(0, 0, 2), 0);
        check.due("what was forgotten does not come back", x.suspect(0, 1, 1, 0), 2);
        refused(x, 0, 1, 2);
    }

    private static void firstK() {
        MiceEngine x = Check.told("row w{out in;out in;skip;}trial 1 2;trial 3 3;");
        x.see(0, 1, 1);
        x.see(0, 0, 2);
        x.see(0, 0, 1);
        left(x, 1, 0, 1, 2, 4);
        left(x, 1, 1, 1, 2);
        left(x, 1, 2, 1, 2);
        left(x, 1, 3, 1, 2);
        x = Check.told("row w{out 1;out 2;out 3;}trial;");
        x.see(0, 0, 1);
        x.see(0, 0, 1);
        x.see(0, 0, 2);
        left(x, 1, 1, 1);
        left(x, 1, 2, 1);
        left(x, 1, 3);
        left(x, 1, 0, 1, 2, 4);
        for (int k : new int[] {-2147483648, -1, 4, 2147483647}) {
            refused(x, 0, 1, k);
        }
        x.forget();
        refused(x, 0, 1, 1);
        left(x, 1, 0, 1, 2, 4);
    }

    private static void suspects() {
        MiceEngine x = Check.told("row w{set ka in;if ka==1 x;out 1;x:out 2;}trial 0;trial 1;trial 2;");
        check.due("see", x.see(0, 0, 1), 0);
        // In the TRIAL of 0 the loss of set or if does not show.
        left(x, 1, 1, 1, 2);
        check.due("see", x.see(0, 1, 2), 1);
        left(x, 1, 2, 1, 2);
        check.due("see what neither does", x.see(0, 1, 0), 2);
        left(x, 1, 3);
        left(x, 2, 3);
        // Of no TRIALS nothing can be SEEN.
        x = Check.told("row w{out 1;}");
        check.due("see without TRIALS", x.see(0, 0, 0), -1);
        left(x, 1, 0, 1);
    }

    private static void leastFirst() {
        MiceEngine x = Check.told("row w{skip;skip;skip;skip;}trial;");
        left(x, 2, 0, 3, 5, 6, 9, 10, 12);
        left(x, 1, 0, 1, 2, 4, 8);
        check.due("suspect(0,2,0,max)", x.suspect(0, 2, 0, 2147483647), -1);
        check.due("suspect(0,2,0,min)", x.suspect(0, 2, 0, -2147483648), -1);
        x = Check.told("row w{out 1;skip;out 2;skip;}trial;");
        x.see(0, 0, 0);
        left(x, 1, 1, 2, 8);
        left(x, 2, 1, 10);
        left(x, 0, 1, 0);
    }

    private static void next() {
        // The TRIAL of both tells 0 and 1 from 2 and 3, the others each tell one LINE from three.
        MiceEngine x = Check.told(FOUR + ONLY_A + ONLY_C + BOTH);
        check.due("the last TRIAL", x.next(1, 1, 0), 2);
        x = Check.told(FOUR + ONLY_A + BOTH + ONLY_C);
        check.due("the second TRIAL", x.next(1, 1, 0), 1);
        x = Check.told(FOUR + BOTH + ONLY_A + ONLY_C);
        check.due("the first TRIAL", x.next(1, 1, 0), 0);
        x = Check.told(FOUR + ONLY_A + BOTH + BOTH + ONLY_C);
        check.due("of alike ones the first", x.next(1, 1, 0), 1);
        x = Check.told(FOUR + ONLY_A.repeat(7) + BOTH);
        check.due("the 8th TRIAL", x.next(1, 1, 0), 7);
        // What is KNOWN makes another TRIAL the best.
        x = Check.told(FOUR + ONLY_A + ONLY_C + BOTH);
        x.see(1, 2, 1);
        check.due("0 or 1", x.next(1, 1, 1), 0);
        check.due("known by 0", x.next(1, 1, 0), 2);
        x.forget();
        x.see(1, 2, 8);
        check.due("2 or 3, or none, which the first TRIAL does not tell", x.next(1, 1, 1), 1);
        x = Check.told("row w{skip;skip;}" + "trial;".repeat(8));
        check.due("no TRIAL tells: the first", x.next(0, 1, 0), 0);
        check.due("of one SUSPECT the first", x.next(0, 0, 0), 0);
    }

    private static void noNext() {
        MiceEngine x = Check.told("row w{out 1;}");
        check.due("no TRIALS", x.next(0, 1, 0), -2);
        check.due("no TRIALS", x.next(0, 0, 0), -2);
        check.due("neither", x.next(0, 2, 0), -2);
        x = Check.told("row w{out 1;}row e{}trial;");
        check.due("no SUSPECTS: not so many LINES", x.next(0, 2, 0), -2);
        check.due("no SUSPECTS: no LINES", x.next(1, 1, 0), -2);
        check.due("one SUSPECT", x.next(1, 0, 0), 0);
        check.due("one SUSPECT", x.next(0, 1, 0), 0);
        x.see(0, 0, 1);
        check.due("no SUSPECTS that DO it", x.next(0, 0, 1), -2);
        check.due("one that DOES it", x.next(0, 1, 1), 0);
        check.due("no such ROW", x.next(2, 1, 0), -1);
    }

    private static void most() {
        MiceEngine x = Check.told("row w{out 1;out 2;out 3;}trial;trial;");
        check.due("no loss", x.most(0, 0, 0), 0);
        check.due("one TRIAL tells all", x.most(0, 1, 0), 1);
        check.due("one TRIAL tells all", x.most(0, 2, 0), 1);
        x.see(0, 0, 1);
        check.due("one SUSPECT", x.most(0, 1, 1), 0);
        x = Check.told("row w{skip;skip;skip;}trial;");
        check.due("all DO the same", x.most(0, 1, 0), 0);
        check.due("all DO the same", x.most(0, 2, 0), 0);
        x = Check.told("row w{out 1;out 1;skip;skip;}trial;trial;");
        check.due("groups that no TRIAL tells apart", x.most(0, 1, 0), 1);
        x = Check.told("row w{out 1;out 2;}");
        check.due("no TRIALS", x.most(0, 1, 0), 0);
    }

    /** The TRIAL of i tells the test of i, and set ka, from all others, so that they must be asked one by one. */
    private static String deciders(int tests) {
        StringBuilder text = new StringBuilder("row w{set ka in;");
        for (int i = 1; i <= tests; i++) {
            text.append("if ka==").append(i).append(" x;");
        }
        text.append("set kb 1;set kb 2;x:out kb;}");
        for (int i = 1; i <= tests; i++) {
            text.append("trial ").append(i).append(";");
        }
        return text.toString();
    }

    private static void upTo4() {
        int[] due = {1, 2, 3, 4, -2, -2, -2, -2};
        for (int tests = 1; tests <= 8; tests++) {
            MiceEngine x = Check.told(deciders(tests));
            check.due("most of " + tests, x.most(0, 1, 0), due[tests - 1]);
        }
        // Known by one TRIAL in which nothing showed, one test less is left.
        MiceEngine x = Check.told(deciders(5));
        x.see(0, 0, 1 << 2);
        check.due("known by 0", x.most(0, 1, 0), -2);
        check.due("known by 1", x.most(0, 1, 1), 4);
        x.see(0, 1, 1 << 3);
        check.due("known by 2", x.most(0, 1, 2), 3);
        check.due("known by 0 again", x.most(0, 1, 0), -2);
    }

    private static void chosenByThoseAhead() {
        // Both, then only a or only c, by what both told: two TRIALS, though no two tell all LINES apart.
        String[] trials = {ONLY_A, ONLY_C, BOTH};
        for (int first = 0; first < 3; first++) {
            String text = FOUR + trials[first] + trials[(first + 1) % 3] + trials[(first + 2) % 3];
            check.due("by three TRIALS", Check.told(text).most(1, 1, 0), 2);
        }
        // Without one of the three, what it tells is told by none: the others are asked.
        check.due("without both", Check.told(FOUR + ONLY_A + ONLY_C).most(1, 1, 0), 2);
        check.due("without only c", Check.told(FOUR + ONLY_A + BOTH).most(1, 1, 0), 2);
        check.due("both alone", Check.told(FOUR + BOTH).most(1, 1, 0), 1);
        check.due("both twice", Check.told(FOUR + BOTH + BOTH).most(1, 1, 0), 1);
        MiceEngine x = Check.told(FOUR + ONLY_A + ONLY_C + BOTH);
        x.see(1, 2, 1);
        check.due("0 or 1: one TRIAL more", x.most(1, 1, 1), 1);
        x.see(1, 0, 1);
        check.due("0: none more", x.most(1, 1, 2), 0);
    }

    private static void withoutSuspects() {
        MiceEngine x = Check.told("row w{out 1;}row e{}trial;");
        check.due("not so many LINES", x.most(0, 2, 0), 0);
        check.due("no LINES", x.most(1, 1, 0), 0);
        check.due("no LINES", x.most(1, 2, 0), 0);
        x.see(0, 0, 1);
        check.due("none that DOES it", x.most(0, 0, 1), 0);
        check.due("no such ROW", x.most(2, 1, 0), -1);
        check.due("no such n", x.most(0, 3, 0), -1);
    }

    private static void anotherRow() {
        MiceEngine x = Check.told("row w{skip;out 2;}row v{skip;out 1;}row u{out 1;}trial;");
        check.due("see(1,0,2)", x.see(1, 0, 2), 0);
        refused(x, 0, 1, 1);
        refused(x, 2, 1, 1);
        refused(x, 3, 1, 0);
        refused(x, -1, 1, 0);
        refused(x, 1, 1, 2);
        check.due("k 0 of another ROW", x.suspects(0, 1, 0), 2);
        check.due("k 0 of another ROW", x.next(0, 1, 0), 0);
        check.due("k 0 of another ROW", x.most(0, 1, 0), 1);
        check.due("its own", x.suspects(1, 1, 1), 1);
        check.due("its own", x.suspect(1, 1, 1, 0), 2);
        check.due("of another ROW nothing is SEEN", x.see(0, 0, 0), -1);
        check.due("forget()", x.forget(), 1);
        check.due("now it is", x.see(0, 0, 2), 0);
        refused(x, 1, 1, 1);
        check.due("its own", x.suspect(0, 1, 1, 0), 2);
    }
}
