/** The boundaries that part II names of ROWS of at most 12 LINES: SOONEST, WAYS, MEAN, CORE. */
public final class EdgesOfOrdersTest {
    private static final Edges edges = new Edges();
    private static final Check check = edges.check;

    public static void main(String[] args) {
        edges.sentence("Of ROWS of at most 12 LINES (else -2):", EdgesOfOrdersTest::atMost12);
        edges.sentence("SOONEST: the fewest LINES that, lost one by one, each time SAME but the last time, may be lost until it is "
            + "not", EdgesOfOrdersTest::soonest);
        edges.sentence("(0: all orders keep it SAME to the end)", EdgesOfOrdersTest::toTheEnd);
        edges.sentence("WAYS of k: in how many orders k LINES may be lost so that it is SAME each time.", EdgesOfOrdersTest::ways);
        edges.sentence("WAYS of k (0 .. how many LINES there are)", EdgesOfOrdersTest::whichK);
        edges.sentence("MEAN: how many times it is SAME on the average, all orders to the last LINE alike: WAYS of k times what is left "
            + "in orders, summed from k 0 to all, by all orders, as a fraction that cannot be lessened.", EdgesOfOrdersTest::mean);
        edges.sentence("summed from k 0 to all, by all orders, as a fraction that cannot be lessened.", EdgesOfOrdersTest::meanOfWays);
        edges.sentence("CORE: the fewest LINES that alone DO the same (SAME when all others are lost); of alike ones the least bits.",
            EdgesOfOrdersTest::core);
        check.end();
    }

    private static void atMost12() {
        for (int size = 11; size <= 16; size++) {
            MiceEngine x = Check.told("row w{" + "skip;".repeat(size - 1) + "out 1;}trial;");
            boolean isTold = size <= 12;
            check.due("soonest of " + size, x.soonest(0), isTold ? 1 : -2);
            check.due("ways of " + size + " of 0", x.ways(0, 0), isTold ? 1 : -2);
            check.due("ways of " + size + " of 1", x.ways(0, 1), isTold ? size - 1 : -2);
            check.due("ways of " + size + " of all", x.ways(0, size), isTold ? 0 : -2);
            check.due("mean of " + size, x.mean(0, false) == -2, !isTold);
            check.due("mean of " + size, x.mean(0, true) == -2, !isTold);
            check.due("core of " + size, x.core(0, 0), isTold ? 1 : -2);
            check.due("core of " + size, x.core(0, 1), isTold ? 1 << (size - 1) : -2);
        }
        MiceEngine x = Check.told("row w{" + "skip;".repeat(12) + "}trial;");
        check.due("12 LINES", x.ways(0, 12), 479001600);
        x.put(0, 0, 0);
        check.due("13 LINES", x.ways(0, 12), -2);
        check.due("13 LINES", x.soonest(0), -2);
        check.due("13 LINES", x.mean(0, true), -2);
        check.due("13 LINES", x.core(0, 0), -2);
        x.take(0, 0);
        check.due("12 LINES", x.mean(0, false), 13);
        // What it calls may be longer.
        x = Check.told("row a{" + "skip;".repeat(15) + "out 1;}row w{call a;}trial;");
        check.due("soonest(0)", x.soonest(0), -2);
        check.due("soonest(1)", x.soonest(1), 1);
        check.due("core(1,1)", x.core(1, 1), 1);
    }

    private static void soonest() {
        MiceEngine x = Check.told("row a{out 1;}row b{end;out 1;}row c{end;end;out 1;}row d{end;end;end;end;end;out 1;}trial;");
        check.due("soonest(0)", x.soonest(0), 1);
        check.due("soonest(1)", x.soonest(1), 1);
        check.due("soonest(2)", x.soonest(2), 2);
        check.due("soonest(3)", x.soonest(3), 5);
        x = Check.told("row w{" + "end;".repeat(11) + "out 1;}row v{" + "end;".repeat(4) + "skip;".repeat(7) + "out 1;}trial;");
        check.due("11 of 12", x.soonest(0), 11);
        check.due("4 of 12", x.soonest(1), 4);
        // All 12 must go before it does something else.
        x = Check.told("row a{out 1;end;}row w{" + "skip;".repeat(11) + "div ka 0;}row v{" + "x:go x;".repeat(12) + "}trial;");
        check.due("one of 12", x.soonest(1), 1);
        check.due("the loop goes on to its last LINE", x.soonest(2), 12);
    }

    private static void toTheEnd() {
        MiceEngine x = Check.told("row e{}row a{skip;}row b{" + "skip;".repeat(12) + "}row c{" + "skip;".repeat(11) + "out 1;}trial;");
        check.due("no LINES", x.soonest(0), 0);
        check.due("one LINE", x.soonest(1), 0);
        check.due("12 LINES", x.soonest(2), 0);
        check.due("but one that harms", x.soonest(3), 1);
        check.due("without TRIALS", Check.told("row w{out 1;}").soonest(0), 0);
        // Not SAME by one set of two alone.
        x = Check.told("row w{skip;end;end;out 1;}trial;");
        check.due("soonest", x.soonest(0), 2);
    }

    private static void ways(MiceEngine x, int row, long... due) {
        for (int k = 0; k < due.length; k++) {
            check.due("ways(" + row + "," + k + ")", x.ways(row, k), due[k]);
        }
        check.due("ways(" + row + "," + due.length + ")", x.ways(row, due.length), -1);
    }

    private static void ways() {
        MiceEngine x = Check.told("row e{}row a{skip;}row b{out 1;}row c{end;end;out 1;}trial;");
        ways(x, 0, 1);
        ways(x, 1, 1, 1);
        ways(x, 2, 1, 0);
        // Three LINES: out and one of the ends may go, or one end alone; then the rest once the out is gone.
        // k 1: 3; k 2: out with an end in any order, 4; k 3: 4 again, for the last end may go when out is gone.
        ways(x, 3, 1, 3, 4, 4);
        // SAME with both lost, but not with either alone: no way leads there.
        x = Check.told("row w{add ka 1;sub ka 1;out ka;skip;}trial;");
        check.due("same(0,3)", x.same(0, 3), 1);
        ways(x, 0, 1, 1, 0, 0, 0);
        // One of the two ways alone: LINE 1 may go first, LINE 0 only behind it.
        x = Check.told("row w{go x;out 7;x:skip;}trial;");
        check.due("same(0,1)", x.same(0, 1), 0);
        check.due("same(0,3)", x.same(0, 3), 1);
        // k 1: LINE 1 only (without x the go leads to out 7); k 2: behind it 0 or 2; k 3: the other one.
        ways(x, 0, 1, 1, 2, 2);
        x = Check.told("row w{" + "skip;".repeat(12) + "}trial;");
        long orders = 1;
        for (int k = 0; k <= 12; k++) {
            check.due("ways(0," + k + ") of all", x.ways(0, k), orders);
            orders *= 12 - k;
        }
        x = Check.told("row w{out 1;out 2;}");
        ways(x, 0, 1, 2, 2);
    }

    private static void whichK() {
        MiceEngine x = Check.told("row e{}row w{skip;skip;}row v{" + "skip;".repeat(12) + "}trial;");
        for (int k : new int[] {-2147483648, -1, 1, 2147483647}) {
            check.due("ways(0," + k + ")", x.ways(0, k), -1);
        }
        check.due("ways(0,0)", x.ways(0, 0), 1);
        check.due("ways(1,2)", x.ways(1, 2), 2);
        check.due("ways(1,3)", x.ways(1, 3), -1);
        check.due("ways(2,12)", x.ways(2, 12), 479001600);
        check.due("ways(2,13)", x.ways(2, 13), -1);
        check.due("ways(3,0)", x.ways(3, 0), -1);
        check.due("ways(-1,0)", x.ways(-1, 0), -1);
        x.take(1, 0);
        check.due("ways(1,2) of one LINE", x.ways(1, 2), -1);
        x.put(1, 0, 0);
        x.put(1, 0, 0);
        check.due("ways(1,3) of three", x.ways(1, 3), 6);
    }

    private static void mean(String text, long above, long below) {
        MiceEngine x = Check.told(text);
        check.due("above of " + text, x.mean(0, false), above);
        check.due("below of " + text, x.mean(0, true), below);
    }

    private static void mean() {
        mean("row e{}trial;", 1, 1);
        mean("row w{out 1;}trial;", 1, 1);
        mean("row w{skip;}trial;", 2, 1);
        mean("row w{" + "skip;".repeat(12) + "}trial;", 13, 1);
        mean("row w{out 1;out 2;}trial;", 1, 1);
        mean("row w{out 1;out 2;}", 3, 1);
        // 2 + 1 by 2.
        mean("row w{skip;out 1;}trial;", 3, 2);
        // 6 + 2 * 2 + 2 * 1 by 6: 2.
        mean("row w{skip;skip;out 1;}trial;", 2, 1);
        // 24 + 3 * 6 + 6 * 2 + 6 * 1 by 24: 5 by 2.
        mean("row w{skip;skip;skip;out 1;}trial;", 5, 2);
        // 6 + 3 * 2 + 4 + 4 by 6: 10 by 3.
        mean("row w{end;end;out 1;}trial;", 10, 3);
        // One LINE of 12 harms: each place in the order alike, 1 to 12, 78 by 12.
        mean("row w{" + "skip;".repeat(11) + "out 1;}trial;", 13, 2);
        mean("row w{" + "skip;".repeat(10) + "out 1;}trial;", 6, 1);
        // The fraction is the same whichever part is asked for first, and for a ROW that is asked for in between.
        MiceEngine x = Check.told("row w{skip;out 1;}row v{skip;skip;skip;out 1;}trial;");
        check.due("mean(0,true)", x.mean(0, true), 2);
        check.due("mean(1,true)", x.mean(1, true), 2);
        check.due("mean(1,false)", x.mean(1, false), 5);
        check.due("mean(0,false)", x.mean(0, false), 3);
    }

    private static void meanOfWays() {
        String[] texts = {"row w{end;end;out 1;}trial;", "row w{set ka 1;set ka 1;out ka;skip;}trial;", "row w{go x;out 7;x:skip;}trial;",
            "row w{skip;skip;end;end;out 1;skip;}trial;", "row w{" + "end;".repeat(11) + "out 1;}trial;",
            "row w{" + "x:go x;".repeat(12) + "}trial;", "row w{out in;out in;}trial;trial 0 1;", "row w{out 1;" + "skip;".repeat(11) + "}trial;"};
        for (String text : texts) {
            MiceEngine x = Check.told(text);
            int size = x.lines(0);
            long sum = 0;
            for (int k = 0; k <= size; k++) {
                sum += x.ways(0, k) * orders(size - k);
            }
            long above = x.mean(0, false);
            long below = x.mean(0, true);
            check.due("the fraction of " + text, above * orders(size), sum * below);
            check.due("what is in both", java.math.BigInteger.valueOf(above).gcd(java.math.BigInteger.valueOf(below)).longValue(), 1);
            check.due("no less than the whole ROW", above >= below, true);
            check.due("no more than all", above <= (size + 1) * below, true);
        }
    }

    private static long orders(int many) {
        return many == 0 ? 1 : many * orders(many - 1);
    }

    private static void core(String text, int many, int bits) {
        MiceEngine x = Check.told(text);
        check.due("how many of " + text, x.core(0, 0), many);
        check.due("bits of " + text, x.core(0, 1), bits);
    }

    private static void core() {
        core("row e{}trial;", 0, 0);
        core("row w{skip;}trial;", 0, 0);
        core("row w{out 1;}trial;", 1, 1);
        core("row w{out 1;out 2;}", 0, 0);
        core("row w{out 1;out 1;skip;}trial;", 2, 3);
        core("row w{skip;set ka 1;set ka 1;out ka;}trial;", 2, 2 + 8);
        core("row w{set ka 1;set ka 1;set ka 1;out ka;}trial;", 2, 1 + 8);
        core("row w{" + "skip;".repeat(11) + "out 1;}trial;", 1, 2048);
        core("row w{out 1;" + "skip;".repeat(11) + "}trial;", 1, 1);
        core("row w{" + "skip;".repeat(4) + "out 1;out 2;out 3;out 4;out 5;out 6;out 7;out 8;}trial;", 8, 4080);
        // All 12 are needed.
        StringBuilder all = new StringBuilder("row w{");
        for (int i = 1; i <= 4; i++) {
            all.append("add ka ").append(i).append(";mul ka 3;out ka;");
        }
        core(all + "}trial;", 12, 4095);
        // Fewer LINES though more bits: LINE 3 alone does what 0 and 1 do.
        core("row w{set ka 1;out ka;end;out 1;}trial;", 1, 8);
        for (int what : new int[] {-2147483648, -1, 2, 3, 2147483647}) {
            check.due("core(0," + what + ")", Check.told("row w{out 1;}trial;").core(0, what), -1);
        }
    }
}
