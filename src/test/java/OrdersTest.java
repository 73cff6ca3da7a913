/** Promises 23 to 26: SOONEST, WAYS, MEAN, CORE. */
public final class OrdersTest {
    private static final Check check = new Check();

    public static void main(String[] args) {
        someHarm();
        noneHarms();
        allHarm();
        jumpsInSteps();
        limits();
        changes();
        check.end();
    }

    private static void ways(MiceEngine x, int row, long... due) {
        for (int k = 0; k < due.length; k++) {
            check.due("ways(" + row + "," + k + ")", x.ways(row, k), due[k]);
        }
        check.due("ways behind all", x.ways(row, due.length), -1);
        check.due("ways ahead of all", x.ways(row, -1), -1);
    }

    private static void mean(MiceEngine x, int row, long above, long below) {
        check.due("mean(" + row + ",false)", x.mean(row, false), above);
        check.due("mean(" + row + ",true)", x.mean(row, true), below);
    }

    private static void core(MiceEngine x, int row, int many, int bits) {
        check.due("core(" + row + ",0)", x.core(row, 0), many);
        check.due("core(" + row + ",1)", x.core(row, 1), bits);
        check.due("core(" + row + ",2)", x.core(row, 2), -1);
        check.due("core(" + row + ",-1)", x.core(row, -1), -1);
    }

    private static void someHarm() {
        check.about("two of which one is needed");
        MiceEngine x = Check.told("row w{skip;set ka 1;set ka 1;out ka;}trial;");
        check.due("soonest(0)", x.soonest(0), 1);
        // One LINE: 0, 1 or 2. Two: 0 and 1, 0 and 2, each in two orders. Three: none.
        ways(x, 0, 1, 3, 4, 0, 0);
        // 24 + 3 * 6 + 4 * 2 = 50, by 24.
        mean(x, 0, 25, 12);
        core(x, 0, 2, 2 + 8);
    }

    private static void noneHarms() {
        check.about("no LINE that harms");
        MiceEngine x = Check.told("row w{skip;skip;skip;skip;}row e{}row v{" + "skip;".repeat(12) + "}trial;");
        check.due("soonest(0)", x.soonest(0), 0);
        ways(x, 0, 1, 4, 12, 24, 24);
        mean(x, 0, 5, 1);
        core(x, 0, 0, 0);
        check.due("soonest(1)", x.soonest(1), 0);
        ways(x, 1, 1);
        mean(x, 1, 1, 1);
        core(x, 1, 0, 0);
        check.due("soonest(2)", x.soonest(2), 0);
        check.due("ways(2,11)", x.ways(2, 11), 479001600);
        check.due("ways(2,12)", x.ways(2, 12), 479001600);
        mean(x, 2, 13, 1);
        core(x, 2, 0, 0);
        x = Check.told("row w{" + "skip;".repeat(12) + "}row v{" + "skip;".repeat(11) + "out 1;}trial;");
        check.due("ways(0,12)", x.ways(0, 12), 479001600);
        check.due("ways(1,12)", x.ways(1, 12), 0);
        check.due("ways(1,11)", x.ways(1, 11), 39916800);
        check.due("ways(0,12)", x.ways(0, 12), 479001600);
    }

    private static void allHarm() {
        check.about("all LINES harm");
        MiceEngine x = Check.told("row w{out 1;out 2;out 3;}trial;");
        check.due("soonest(0)", x.soonest(0), 1);
        ways(x, 0, 1, 0, 0, 0);
        mean(x, 0, 1, 1);
        core(x, 0, 3, 7);
        x = Check.told("row w{out 1;out 2;out 3;}");
        check.due("soonest without trials", x.soonest(0), 0);
        mean(x, 0, 4, 1);
        core(x, 0, 0, 0);
    }

    /** What is not SAME on the way may be SAME again with more lost: orders end all the same. */
    private static void jumpsInSteps() {
        check.about("SAME again with more lost");
        MiceEngine x = Check.told("row w{add ka 1;sub ka 1;out ka;}trial;");
        check.due("same(0,1)", x.same(0, 1), 0);
        check.due("same(0,3)", x.same(0, 3), 1);
        check.due("soonest(0)", x.soonest(0), 1);
        ways(x, 0, 1, 0, 0, 0);
        mean(x, 0, 1, 1);
        core(x, 0, 1, 4);
        x = Check.told("row w{set ka 1;set ka 1;set ka 1;out ka;skip;}trial;");
        check.about("three of which one is needed, the least bits");
        core(x, 0, 2, 1 + 8);
        x.take(0, 3);
        check.due("soonest(0)", x.soonest(0), 0);
        x = Check.told("row w{set ka 1;set ka 1;set ka 1;end;out 1;}trial;");
        check.due("soonest(0)", x.soonest(0), 1);
        x = Check.told("row w{end;end;end;out 1;}trial;");
        check.about("SOONEST 3");
        check.due("soonest(0)", x.soonest(0), 3);
        ways(x, 0, 1, 4, 12, 18, 18);
        // 24 + 4 * 6 + 12 * 2 + 18 + 18 = 108, by 24.
        mean(x, 0, 9, 2);
        core(x, 0, 0, 0);
    }

    private static void limits() {
        check.about("limits");
        MiceEngine x = Check.told("row w{" + "skip;".repeat(13) + "}trial;");
        check.due("soonest(0)", x.soonest(0), -2);
        check.due("ways(0,0)", x.ways(0, 0), -2);
        check.due("ways(0,13)", x.ways(0, 13), -2);
        mean(x, 0, -2, -2);
        check.due("core(0,0)", x.core(0, 0), -2);
        check.due("core(0,1)", x.core(0, 1), -2);
        for (int row : new int[] {-1, 1, 2147483647, -2147483648}) {
            check.due("soonest", x.soonest(row), -1);
            check.due("ways", x.ways(row, 0), -1);
            mean(x, row, -1, -1);
            check.due("core", x.core(row, 0), -1);
        }
        x.take(0, 0);
        mean(x, 0, 13, 1);
    }

    private static void changes() {
        check.about("what is called changes");
        MiceEngine x = Check.told("row a{out 1;}row w{call a;skip;}trial;");
        ways(x, 1, 1, 1, 0);
        core(x, 1, 1, 1);
        x.hold(0);
        x.take(0, 0);
        ways(x, 1, 1, 2, 2);
        core(x, 1, 0, 0);
        x.restore(0);
        ways(x, 1, 1, 1, 0);
        core(x, 1, 1, 1);
        x.put(1, 0, 2);
        ways(x, 1, 1, 1, 0, 0);
        core(x, 1, 2, 5);
    }
}
