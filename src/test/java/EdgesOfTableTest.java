/** The boundaries that part III names of the TABLE, of rows that are SOUGHT, and of LINES put in and taken out. */
public final class EdgesOfTableTest {
    private static final Edges edges = new Edges();
    private static final Check check = edges.check;

    public static void main(String[] args) {
        edges.sentence("TABLE: all TRIALS that are told with gives.", EdgesOfTableTest::table);
        edges.sentence("A row DOES the TABLE if in each of these it stops by 0 and the OUTPUT is what gives tells.",
            EdgesOfTableTest::does);
        edges.sentence("it stops by 0", EdgesOfTableTest::stopsByZero);
        edges.sentence("SOUGHT from a ROW for up to n LINES (0 .. 5) and m losses (0, 1):", EdgesOfTableTest::ranges);
        edges.sentence("of all rows of 0 to n of its LINES", EdgesOfTableTest::upToN);
        edges.sentence("(each any number of times, in any order, with their NAMES; jumps go by these)", EdgesOfTableTest::anyOrder);
        edges.sentence("with their NAMES; jumps go by these", EdgesOfTableTest::names);
        edges.sentence("for m 1, also with each one of their LINES lost (a row of none has none to lose):", EdgesOfTableTest::losses);
        edges.sentence("(a row of none has none to lose)", EdgesOfTableTest::rowOfNone);
        edges.sentence("the shortest, of alike ones the first by numbers of LINES.", EdgesOfTableTest::shortest);
        edges.sentence("SPENT if, for some length up to the one that is found (or n), there are more than 30000 rows of it.",
            EdgesOfTableTest::spent);
        edges.sentence("up to the one that is found (or n)", EdgesOfTableTest::spentUpToFound);
        edges.sentence("LINES can be put in (a copy of a LINE of that ROW, with its NAME, ahead of one, or behind all; 16 at most)",
            EdgesOfTableTest::put);
        edges.sentence("16 at most", EdgesOfTableTest::sixteenAtMost);
        edges.sentence("and taken out;", EdgesOfTableTest::take);
        edges.sentence("all that is SEEN goes then.", EdgesOfTableTest::seenGoes);
        check.end();
    }

    private static void sought(MiceEngine x, int row, int n, int m, int... due) {
        String of = "(" + row + "," + n + "," + m + ")";
        check.due("sought" + of, x.sought(row, n, m), due.length);
        for (int i = 0; i < due.length; i++) {
            check.due("soughtAt" + of + i, x.soughtAt(row, n, m, i), due[i]);
        }
        check.due("soughtAt behind all" + of, x.soughtAt(row, n, m, due.length), -1);
        check.due("soughtAt ahead of all" + of, x.soughtAt(row, n, m, -1), -1);
    }

    private static void notSought(MiceEngine x, int row, int n, int m, int due) {
        String of = "(" + row + "," + n + "," + m + ")";
        check.due("sought" + of, x.sought(row, n, m), due);
        for (int i = -1; i <= 5; i++) {
            check.due("soughtAt" + of + i, x.soughtAt(row, n, m, i), -1);
        }
    }

    private static void table() {
        MiceEngine x = Check.told("row w{out in;}trial 1;trial 2;trial 3 gives 3;trial gives 0;trial 4;");
        check.due("count(2)", x.count(2), 2);
        check.due("does(0,0)", x.does(0, 0), 1);
        check.due("does(0,1)", x.does(0, 1), 0);
        x = Check.told("row w{out in;}trial 1;trial 2;");
        check.due("no TABLE", x.count(2), 0);
        check.due("all DO it", x.does(0, 0), 1);
        check.due("all DO it", x.does(0, 1), 1);
        x = Check.told("row w{out in;}");
        check.due("no TRIALS", x.does(0, 1), 1);
        x = Check.told("row w{out in;}" + "trial 1 gives 1;".repeat(7) + "trial 2 gives 1;");
        check.due("count(2)", x.count(2), 8);
        check.due("the last of 8", x.does(0, 0), 0);
        x = Check.told("row w{out in;}trial 1 gives 2;" + "trial 1 gives 1;".repeat(7));
        check.due("the first of 8", x.does(0, 0), 0);
        // gives without numbers: of the TABLE all the same.
        x = Check.told("row w{out 1;}trial gives;");
        check.due("count(2)", x.count(2), 1);
        check.due("does(0,0)", x.does(0, 0), 0);
        check.due("does(0,1)", x.does(0, 1), 1);
    }

    private static void does() {
        MiceEngine x = Check.told("row w{out 1;out 2;out 3;}trial gives 1 2;");
        check.due("one too many", x.does(0, 0), 0);
        check.due("just these", x.does(0, 4), 1);
        check.due("another one", x.does(0, 2), 0);
        check.due("one too few", x.does(0, 6), 0);
        check.due("none", x.does(0, 7), 0);
        check.due("no such LOST", x.does(0, 8), -1);
        check.due("no such LOST", x.does(0, -1), -1);
        check.due("no such ROW", x.does(1, 0), -1);
        x = Check.told("row w{out -9999;}trial gives -9999;");
        check.due("-9999", x.does(0, 0), 1);
        x = Check.told("row w{" + "out 1;".repeat(8) + "}trial gives 1 1 1 1 1 1 1 1;");
        check.due("8 numbers", x.does(0, 0), 1);
        check.due("7 numbers", x.does(0, 1), 0);
    }

    private static void stopsByZero() {
        MiceEngine x = Check.told("row w{out 1;x:go x;}row v{out 1;div ka 0;}row u{" + "out 1;".repeat(9) + "}trial gives 1;");
        check.due("FUEL", x.does(0, 0), 0);
        check.due("over", x.does(0, 2), 1);
        check.due("by 0", x.does(1, 0), 0);
        check.due("over", x.does(1, 2), 1);
        x = Check.told("row u{" + "out 1;".repeat(9) + "}trial gives 1 1 1 1 1 1 1 1;");
        check.due("a 9th number", x.does(0, 0), 0);
        check.due("8 numbers", x.does(0, 1), 1);
        x = Check.told("row w{out 1;skip;}trial gives 1;fuel 1;");
        check.due("a STEP more than FUEL", x.does(0, 0), 0);
        check.due("just the FUEL", x.does(0, 2), 1);
        // SOUGHT rows must stop by 0 too.
        x = Check.told("row w{out 1;div ka 0;}trial gives 1;");
        sought(x, 0, 2, 0, 0);
        x = Check.told("row w{x:go x;}trial gives;");
        sought(x, 0, 5, 0);
    }

    private static void ranges() {
        MiceEngine x = Check.told("row w{out 1;skip;}trial gives 1 1 1 1 1;");
        sought(x, 0, 5, 0, 0, 0, 0, 0, 0);
        notSought(x, 0, 4, 0, -2);
        notSought(x, 0, 0, 0, -2);
        notSought(x, 0, 0, 1, -2);
        notSought(x, 0, 5, 1, -2);
        for (int n : new int[] {-2147483648, -1, 6, 7, 2147483647}) {
            notSought(x, 0, n, 0, -1);
            notSought(x, 0, n, 1, -1);
        }
        for (int m : new int[] {-2147483648, -1, 2, 3, 2147483647}) {
            notSought(x, 0, 5, m, -1);
        }
        notSought(x, 1, 5, 0, -1);
        notSought(x, -1, 5, 0, -1);
        check.due("soughtAt max", x.soughtAt(0, 5, 0, 2147483647), -1);
        check.due("soughtAt min", x.soughtAt(0, 5, 0, -2147483648), -1);
    }

    private static void upToN() {
        for (int size = 0; size <= 5; size++) {
            MiceEngine x = Check.told("row w{skip;out 1;}trial gives" + " 1".repeat(size) + ";");
            for (int n = 0; n <= 5; n++) {
                check.due("sought(0," + n + ",0) of " + size, x.sought(0, n, 0), n < size ? -2 : size);
            }
        }
        MiceEngine x = Check.told("row w{skip;out 1;}trial gives 1 1 1 1 1 1;");
        notSought(x, 0, 5, 0, -2);
        x = Check.told("row e{}trial gives 1;");
        notSought(x, 0, 5, 0, -2);
        // The ROW of 16 LINES gives rows of three.
        x = Check.told("row w{" + "skip;".repeat(15) + "out 1;}trial gives 1 1 1;");
        sought(x, 0, 3, 0, 15, 15, 15);
    }

    private static void anyOrder() {
        MiceEngine x = Check.told("row w{out 1;out 2;out 3;}trial gives 3 1 3 2;");
        sought(x, 0, 5, 0, 2, 0, 2, 1);
        x = Check.told("row w{out 1;}trial gives 1 1 1;");
        sought(x, 0, 5, 0, 0, 0, 0);
        x = Check.told("row w{out 3;out 2;out 1;}trial gives 1 2 3;");
        sought(x, 0, 3, 0, 2, 1, 0);
    }

    private static void names() {
        // No LINE of the new row has x: the jump goes on with the next one.
        MiceEngine x = Check.told("row w{x:end;go x;out 3;}trial gives 3;");
        sought(x, 0, 1, 0, 2);
        // The first LINE of the new row that has it: x stands twice there.
        x = Check.told("row w{x:add ka 1;if ka<3 x;out ka;}trial gives 3;");
        sought(x, 0, 3, 0, 0, 1, 2);
        x = Check.told("row w{x:add ka 1;if ka<3 x;out ka;}trial gives 4;");
        sought(x, 0, 4, 0, 0, 0, 1, 2);
        // Rows that begin alike may do something else by what stands behind: the NAME that a jump goes by, or what it comes back from.
        x = Check.told("row w{if in==1 x;out 1;x:out 2;end;}trial 1 gives 2;trial 0 gives 1;");
        sought(x, 0, 5, 0, 0, 1, 3, 2);
        x = Check.told("row w{x:out ka;go x;add ka 1;}trial gives 0 1;");
        sought(x, 0, 3, 0, 0, 2, 0);
        x = Check.told("row w{end;x:skip;go x;out 1;y:out 2;if in==3 y;}trial 3 gives 2;trial 0 gives 1;");
        sought(x, 0, 4, 0, 5, 3, 0, 4);
        // A call is of the ROW as it is.
        x = Check.told("row a{out 1;out 2;}row w{skip;call a;}trial gives 1 2;");
        sought(x, 1, 5, 0, 1);
        x.take(0, 0);
        notSought(x, 1, 1, 0, -2);
    }

    private static void losses() {
        // Called twice, p puts out once: then one may be lost.
        MiceEngine x = Check.told("row p{if kd!=0 x;set kd 1;out 5;x:skip;}row w{skip;call p;}trial gives 5;");
        sought(x, 1, 5, 0, 1);
        sought(x, 1, 5, 1, 1, 1);
        sought(x, 1, 2, 1, 1, 1);
        notSought(x, 1, 1, 1, -2);
        notSought(x, 1, 0, 1, -2);
        // One LINE lost, whichever: the last one counts as well as the first.
        x = Check.told("row p{if kd!=0 x;set kd 1;out 5;x:skip;}row w{call p;out 5;}trial gives 5;");
        sought(x, 1, 5, 0, 0);
        sought(x, 1, 5, 1, 0, 0);
        x = Check.told("row w{out 5;}trial gives 5;");
        notSought(x, 0, 5, 1, -2);
        // Rows of five that bear a loss: a call more than five that are needed is none.
        x = Check.told("row p{add kd 1;if kd!=4 x;out 5;x:skip;}row w{call p;}trial gives 5;");
        sought(x, 1, 5, 0, 0, 0, 0, 0);
        sought(x, 1, 5, 1, 0, 0, 0, 0, 0);
        x = Check.told("row p{add kd 1;if kd!=5 x;out 5;x:skip;}row w{call p;}trial gives 5;");
        sought(x, 1, 5, 0, 0, 0, 0, 0, 0);
        notSought(x, 1, 5, 1, -2);
        // With the loss it must stop by 0 as well.
        x = Check.told("row w{x:end;go x;skip;}trial gives;fuel 2;");
        sought(x, 0, 5, 1);
    }

    private static void rowOfNone() {
        MiceEngine x = Check.told("row w{out 1;}row e{}trial gives;");
        for (int n = 0; n <= 5; n++) {
            sought(x, 0, n, 0);
            sought(x, 0, n, 1);
            sought(x, 1, n, 1);
        }
        x = Check.told("row w{out 1;}trial 5;");
        sought(x, 0, 5, 1);
        x = Check.told("row w{out 1;}");
        sought(x, 0, 5, 1);
    }

    private static void shortest() {
        MiceEngine x = Check.told("row w{set ka 1;add ka 1;out ka;out 2;}trial gives 2;");
        sought(x, 0, 5, 0, 3);
        x = Check.told("row w{add ka 1;add ka 1;out ka;}trial gives 2;");
        sought(x, 0, 5, 0, 0, 0, 2);
        x = Check.told("row w{out 2;out 1;out 1;}trial gives 1 2;");
        sought(x, 0, 5, 0, 1, 0);
        x = Check.told("row w{skip;out 1;out 1;}trial gives 1;");
        sought(x, 0, 5, 0, 1);
        // By the first number, then by the second: 0 2 comes ahead of 1 0.
        x = Check.told("row w{add ka 2;add ka 1;out ka;}trial gives 2;");
        sought(x, 0, 5, 0, 0, 2);
        x = Check.told("row w{out ka;add ka 1;add ka 1;}trial gives 1;");
        sought(x, 0, 5, 0, 1, 0);
    }

    private static String lines(int size, String last) {
        return "row w{" + "skip;".repeat(size - 1) + last + "}";
    }

    private static void spent() {
        // Rows of 5 LINES: 16807 of 7, 32768 of 8; of 4: 28561 of 13, 38416 of 14; of 3: 4096 of 16.
        String five = "trial gives 1 1 1 1 1;";
        String four = "trial gives 1 1 1 1;";
        String six = "trial gives 1 1 1 1 1 1;";
        MiceEngine x = Check.told(lines(7, "out 1;") + five);
        sought(x, 0, 5, 0, 6, 6, 6, 6, 6);
        notSought(Check.told(lines(7, "out 1;") + six), 0, 5, 0, -2);
        x = Check.told(lines(8, "out 1;") + five);
        notSought(x, 0, 5, 0, -3);
        notSought(x, 0, 4, 0, -2);
        x = Check.told(lines(13, "out 1;") + four);
        sought(x, 0, 4, 0, 12, 12, 12, 12);
        notSought(Check.told(lines(13, "out 1;") + five), 0, 4, 0, -2);
        notSought(Check.told(lines(13, "out 1;") + five), 0, 5, 0, -3);
        x = Check.told(lines(14, "out 1;") + four);
        notSought(x, 0, 4, 0, -3);
        notSought(x, 0, 5, 0, -3);
        notSought(x, 0, 3, 0, -2);
        x = Check.told(lines(16, "out 1;") + five);
        notSought(x, 0, 3, 0, -2);
        notSought(x, 0, 4, 0, -3);
        notSought(x, 0, 5, 0, -3);
        notSought(x, 0, 5, 1, -3);
        // A LINE more or less.
        x = Check.told(lines(7, "out 1;") + five);
        x.put(0, 0, 0);
        notSought(x, 0, 5, 0, -3);
        x.take(0, 0);
        sought(x, 0, 5, 0, 6, 6, 6, 6, 6);
    }

    private static void spentUpToFound() {
        // Found with four LINES: that there are too many of five does not count.
        MiceEngine x = Check.told(lines(8, "out 1;") + "trial gives 1 1 1 1;");
        sought(x, 0, 5, 0, 7, 7, 7, 7);
        x = Check.told(lines(16, "out 1;") + "trial gives 1 1 1;");
        sought(x, 0, 5, 0, 15, 15, 15);
        sought(x, 0, 3, 0, 15, 15, 15);
        x = Check.told(lines(16, "out 1;") + "trial gives;");
        sought(x, 0, 5, 1);
        // What would be the very first row of a length that is too many is not found.
        x = Check.told("row w{out 1;" + "skip;".repeat(7) + "}trial gives 1 1 1 1 1;");
        notSought(x, 0, 5, 0, -3);
        // For m 1 what is found for m 0 does not count.
        x = Check.told(lines(8, "out 1;") + "trial gives 1;");
        sought(x, 0, 5, 0, 7);
        notSought(x, 0, 5, 1, -3);
        notSought(x, 0, 4, 1, -2);
    }

    private static void orders(MiceEngine x, int row, int... due) {
        check.due("lines(" + row + ")", x.lines(row), due.length);
        for (int i = 0; i < due.length; i++) {
            check.due("line(" + row + "," + i + ",0)", x.line(row, i, 0), due[i]);
        }
        check.due("no more LINES", x.line(row, due.length, 0), -1);
    }

    private static void put() {
        MiceEngine x = Check.told("row v{end;}row w{set ka 1;x:out ka;go x;}trial;");
        check.due("put(1,0,0)", x.put(1, 0, 0), 4);
        orders(x, 1, 0, 0, 5, 6);
        check.due("behind all", x.put(1, 0, 4), 5);
        orders(x, 1, 0, 0, 5, 6, 0);
        check.due("ahead of the last", x.put(1, 2, 4), 6);
        orders(x, 1, 0, 0, 5, 6, 5, 0);
        check.due("right ahead of itself", x.put(1, 3, 3), 7);
        orders(x, 1, 0, 0, 5, 6, 6, 5, 0);
        check.due("right behind itself", x.put(1, 6, 7), 8);
        orders(x, 1, 0, 0, 5, 6, 6, 5, 0, 0);
        orders(x, 0, 9);
        check.due("with its NAME", x.put(1, 2, 0), 9);
        check.due("go x leads to the copy", x.line(1, 4, 2), 0);
        check.due("with its TOKENS", x.line(1, 0, 1), 4);
        check.due("NONE behind what is behind all", x.put(1, 0, 10), -1);
        check.due("NONE ahead of all", x.put(1, 0, -1), -1);
        check.due("no such LINE", x.put(1, 9, 0), -1);
        check.due("the last LINE", x.put(1, 8, 0), 10);
        check.due("of a ROW of one", x.put(0, 0, 1), 2);
    }

    private static void sixteenAtMost() {
        for (int at : new int[] {0, 1, 15}) {
            MiceEngine x = Check.told(lines(15, "out 1;") + "trial;");
            check.due("the 16th", x.put(0, 14, at), 16);
            check.due("no 17th", x.put(0, 0, 0), -1);
            check.due("no 17th behind all", x.put(0, 0, 16), -1);
            check.due("lines(0)", x.lines(0), 16);
            check.due("two numbers", x.after(0, 0, 0, 0), 2);
            check.due("take", x.take(0, 15), 15);
            check.due("room again", x.put(0, 0, 15), 16);
        }
        MiceEngine x = Check.told("row w{skip;}trial;");
        for (int i = 2; i <= 16; i++) {
            check.due("put", x.put(0, i - 2, i - 1), i);
        }
        check.due("put", x.put(0, 15, 16), -1);
        // Each ROW has room of its own.
        x = Check.told("row w{" + "skip;".repeat(16) + "}row v{skip;}trial;");
        check.due("put(0,0,0)", x.put(0, 0, 0), -1);
        check.due("put(1,0,0)", x.put(1, 0, 0), 2);
    }

    private static void take() {
        MiceEngine x = Check.told("row v{end;}row w{set ka 1;x:out ka;go x;skip;}trial;");
        check.due("the first", x.take(1, 0), 3);
        orders(x, 1, 5, 6, 10);
        check.due("the last", x.take(1, 2), 2);
        orders(x, 1, 5, 6);
        check.due("go x", x.line(1, 1, 2), 0);
        check.due("x", x.take(1, 0), 1);
        check.due("none has the NAME", x.line(1, 0, 2), -2);
        check.due("no such LINE", x.take(1, 1), -1);
        check.due("the only one", x.take(1, 0), 0);
        orders(x, 1);
        check.due("of none", x.take(1, 0), -1);
        check.due("nothing to put", x.put(1, 0, 0), -1);
        orders(x, 0, 9);
        x = Check.told("row w{" + "skip;".repeat(15) + "out 1;}trial;");
        check.due("the last of 16", x.take(0, 15), 15);
        check.due("no numbers", x.after(0, 0, 0, 0), 0);
        check.due("no 16th", x.take(0, 15), -1);
    }

    private static void seenGoes() {
        MiceEngine x = Check.told("row v{skip;}row w{skip;out 1;}trial;");
        x.see(1, 0, 1);
        x.see(1, 0, 2);
        check.due("SEEN", x.count(4), 2);
        check.due("put into another ROW", x.put(0, 0, 0), 2);
        check.due("SEEN", x.count(4), 0);
        check.due("numbered from 0 on", x.see(1, 0, 1), 0);
        check.due("take from another ROW", x.take(0, 0), 1);
        check.due("SEEN", x.count(4), 0);
        x.see(1, 0, 1);
        check.due("put", x.put(1, 0, 0), 3);
        check.due("SEEN", x.count(4), 0);
        x.see(1, 0, 1);
        check.due("take", x.take(1, 0), 2);
        check.due("SEEN", x.count(4), 0);
        check.due("another ROW may be SEEN", x.see(0, 0, 0), 0);
        check.due("forget()", x.forget(), 1);
    }
}
