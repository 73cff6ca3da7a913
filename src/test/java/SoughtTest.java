/** Promises 27 to 29: the TABLE, and rows that are SOUGHT. */
public final class SoughtTest {
    private static final Check check = new Check();

    public static void main(String[] args) {
        does();
        shortest();
        losses();
        spent();
        noLines();
        namesOfTheNewRow();
        noSuchOnes();
        changes();
        check.end();
    }

    private static void sought(MiceEngine x, int row, int n, int m, int... due) {
        String of = "(" + row + "," + n + "," + m + ")";
        check.due("sought" + of, x.sought(row, n, m), due.length);
        for (int i = 0; i < due.length; i++) {
            check.due("soughtAt" + of + i, x.soughtAt(row, n, m, i), due[i]);
        }
        check.due("soughtAt behind all", x.soughtAt(row, n, m, due.length), -1);
        check.due("soughtAt ahead of all", x.soughtAt(row, n, m, -1), -1);
    }

    private static void notSought(MiceEngine x, int row, int n, int m, int due) {
        String of = "(" + row + "," + n + "," + m + ")";
        check.due("sought" + of, x.sought(row, n, m), due);
        check.due("soughtAt" + of, x.soughtAt(row, n, m, 0), -1);
    }

    private static void does() {
        check.about("promise 27");
        MiceEngine x = Check.told("row w{out in;if in<1 x;out 5;x:skip;}trial 1 gives 1;trial 2 1 gives 2 5;trial 9;");
        check.due("does(0,0)", x.does(0, 0), 1);
        check.due("does(0,1)", x.does(0, 1), 0);
        check.due("does(0,2)", x.does(0, 2), 0);
        check.due("does(0,4)", x.does(0, 4), 0);
        check.due("does(0,8)", x.does(0, 8), 0);
        check.due("does(0,16)", x.does(0, 16), -1);
        check.due("does(0,-1)", x.does(0, -1), -1);
        check.due("does(1,0)", x.does(1, 0), -1);
        check.due("does(-1,0)", x.does(-1, 0), -1);
        x = Check.told("row w{out 1;x:go x;}trial gives 1;trial;");
        check.due("it must stop by 0", x.does(0, 0), 0);
        check.due("does(0,2)", x.does(0, 2), 1);
        x = Check.told("row w{out 1;div ka 0;}trial;trial 1;");
        check.due("without a TABLE", x.does(0, 0), 1);
        x = Check.told("row w{out 1;out 2;}trial gives 1;");
        check.due("too many", x.does(0, 0), 0);
        check.due("does(0,2)", x.does(0, 2), 1);
        check.due("too few", x.does(0, 3), 0);
        x = Check.told("row w{out 1;}trial gives;");
        check.due("gives nothing", x.does(0, 0), 0);
        check.due("does(0,1)", x.does(0, 1), 1);
        x = Check.told("row w{x:out 1;go x;}trial gives 1 1 1 1 1 1 1 1;");
        check.due("a 9th number", x.does(0, 0), 0);
    }

    private static void shortest() {
        check.about("promises 28, 29");
        MiceEngine x = Check.told("row w{add ka 1;out ka;add ka 1;skip;}trial gives 2;");
        sought(x, 0, 3, 0, 0, 0, 1);
        sought(x, 0, 5, 0, 0, 0, 1);
        notSought(x, 0, 2, 0, -2);
        notSought(x, 0, 0, 0, -2);
        x = Check.told("row w{add ka 1;out ka;add ka 1;skip;}trial gives 1 1 2;trial 7 gives 1 1 2;");
        sought(x, 0, 5, 0, 0, 1, 1, 0, 1);
        notSought(x, 0, 4, 0, -2);
        x = Check.told("row w{out 1;}trial gives;");
        sought(x, 0, 5, 0);
        sought(x, 0, 0, 1);
        x = Check.told("row w{out 2;out 1;out 1;}trial gives 1 2;");
        sought(x, 0, 2, 0, 1, 0);
    }

    private static void losses() {
        check.about("promise 28: losses");
        MiceEngine x = Check.told("row p{if kd!=0 x;set kd 1;out 5;x:skip;}row w{skip;call p;}trial gives 5;");
        sought(x, 1, 5, 0, 1);
        sought(x, 1, 5, 1, 1, 1);
        notSought(x, 1, 1, 1, -2);
        x = Check.told("row p{add kd 1;if kd!=2 x;out 5;x:skip;}row w{call p;skip;}trial gives 5;");
        sought(x, 1, 5, 0, 0, 0);
        sought(x, 1, 5, 1, 0, 0, 0);
        x = Check.told("row w{set ka 1;out ka;}trial gives 1;");
        notSought(x, 0, 5, 1, -2);
    }

    private static void spent() {
        check.about("promise 28: SPENT");
        // 8 LINES: 4096 rows of 4 LINES, 32768 of 5.
        MiceEngine x = Check.told("row w{" + "skip;".repeat(7) + "out 1;}trial gives 1 1 1 1;trial gives 1 1 1 1;");
        sought(x, 0, 4, 0, 7, 7, 7, 7);
        sought(x, 0, 5, 0, 7, 7, 7, 7);
        notSought(x, 0, 4, 1, -2);
        notSought(x, 0, 5, 1, -3);
        x = Check.told("row w{" + "skip;".repeat(7) + "out 1;}trial gives 1 1 1 1 1;");
        notSought(x, 0, 4, 0, -2);
        notSought(x, 0, 5, 0, -3);
        // 7 LINES: 16807 rows of 5; 13: 28561 of 4; 14: 38416 of 4; 16: 4096 of 3.
        x = Check.told("row w{" + "skip;".repeat(6) + "out 1;}trial gives 1 1 1 1 1;");
        sought(x, 0, 5, 0, 6, 6, 6, 6, 6);
        x = Check.told("row w{" + "skip;".repeat(12) + "out 1;}trial gives 1 1 1 1 1;");
        notSought(x, 0, 4, 0, -2);
        notSought(x, 0, 5, 0, -3);
        x.put(0, 0, 0);
        notSought(x, 0, 3, 0, -2);
        notSought(x, 0, 4, 0, -3);
        x = Check.told("row w{" + "skip;".repeat(15) + "out 1;}trial gives 1 1 1;");
        sought(x, 0, 5, 0, 15, 15, 15);
    }

    private static void noLines() {
        check.about("promise 28: a ROW of no LINES");
        MiceEngine x = Check.told("row e{}trial gives;");
        sought(x, 0, 5, 1);
        x = Check.told("row e{}trial gives 1;");
        notSought(x, 0, 5, 0, -2);
        notSought(x, 0, 5, 1, -2);
        x = Check.told("row w{out 1;}trial gives 1 1 1 1 1;");
        sought(x, 0, 5, 0, 0, 0, 0, 0, 0);
    }

    private static void namesOfTheNewRow() {
        check.about("promise 28: jumps go by the NAMES of the new row");
        // Without the LINE x in it, go x goes on with the next one.
        MiceEngine x = Check.told("row w{x:end;go x;out 3;}trial gives 3;");
        sought(x, 0, 2, 0, 2);
        // The loop: x: add, out, if back to the first of them.
        x = Check.told("row w{if ka<4 x;out ka;x:add ka 2;end;}trial gives 2 4;");
        sought(x, 0, 4, 0, 2, 1, 0);
        // A STEP more than FUEL does not stop by 0.
        x = Check.told("row w{if ka<4 x;out ka;x:add ka 2;end;}trial gives 2 4;fuel 5;");
        sought(x, 0, 4, 0, 2, 1, 2, 1);
    }

    private static void noSuchOnes() {
        check.about("no such ones");
        MiceEngine x = Check.told("row w{out 1;}trial gives 1;");
        notSought(x, 0, -1, 0, -1);
        notSought(x, 0, 6, 0, -1);
        notSought(x, 0, 1, -1, -1);
        notSought(x, 0, 1, 2, -1);
        notSought(x, 1, 1, 0, -1);
        notSought(x, -1, 1, 0, -1);
        sought(x, 0, 1, 0, 0);
        check.due("soughtAt max", x.soughtAt(0, 1, 0, 2147483647), -1);
        check.due("soughtAt min", x.soughtAt(0, 1, 0, -2147483648), -1);
    }

    private static void changes() {
        check.about("what is SOUGHT after a change");
        MiceEngine x = Check.told("row a{out 1;}row w{skip;call a;}trial gives 1;");
        sought(x, 1, 2, 0, 1);
        x.hold(0);
        x.put(1, 1, 0);
        sought(x, 1, 2, 0, 0);
        x.take(0, 0);
        notSought(x, 1, 2, 0, -2);
        x.restore(0);
        sought(x, 1, 2, 0, 1);
        Check.feed(x, "row w{skip;skip;out 1;}trial gives 1;");
        x.read();
        notSought(x, 1, 2, 0, -1);
        sought(x, 0, 2, 0, 2);
    }
}
