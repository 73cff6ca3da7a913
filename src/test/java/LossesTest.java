/** Promises 11 to 19, 22: what lost LINES change. */
public final class LossesTest {
    private static final Check check = new Check();

    public static void main(String[] args) {
        sameAndDiffers();
        bearsAndBreaks();
        idleHarmWorst();
        pair();
        mends();
        life();
        lot();
        noSuchOnes();
        check.end();
    }

    private static void sameAndDiffers() {
        check.about("promises 11, 12");
        MiceEngine x = Check.told("row w{set ka in;if ka<1 x;out ka;x:skip;out 7;}trial 0;trial 1;trial 2;");
        int[][] due = {{0, -2}, {1, 1}, {2, 0}, {4, 1}, {8, 0}, {16, 0}, {10, 0}, {12, 1}, {14, 1}, {31, 0}, {3, 0}};
        for (int[] d : due) {
            check.due("differs(0," + d[0] + ")", x.differs(0, d[0]), d[1]);
            check.due("same(0," + d[0] + ")", x.same(0, d[0]), d[1] == -2 ? 1 : 0);
        }
        x = Check.told("row w{out 1;}");
        check.due("same without trials", x.same(0, 1), 1);
        check.due("differs without trials", x.differs(0, 1), -2);
        x = Check.told("row w{x:skip;go x;}trial;");
        check.due("how it stops counts", x.same(0, 2), 0);
        x = Check.told("row w{skip;set ka 1;}trial;");
        check.due("STEPS and counters do not", x.same(0, 3), 1);
        x = Check.told("row w{skip;set ka 1;go x;x:skip;}trial;fuel 3;");
        check.due("FUEL that is enough with one less", x.same(0, 1), 0);
        check.due("FUEL", x.run(0, 0, 0), 1);
        check.due("run(0,1,0)", x.run(0, 1, 0), 0);
        x = Check.told("row w{x:out 1;go x;}trial;");
        check.due("one number of 9", x.same(0, 2), 0);
        x = Check.told("row a{out 1;}row w{call a;}trial;");
        check.due("same(1,1)", x.same(1, 1), 0);
        x.take(0, 0);
        check.due("same(1,1) of what is called now", x.same(1, 1), 1);
    }

    private static void bearsAndBreaks() {
        check.about("promises 13, 14");
        MiceEngine x = Check.told("row w{skip;set ka 1;set ka 1;set ka 1;out ka;skip;}trial;");
        int[][] due = {{0, 1, -2}, {1, 0, 16}, {2, 0, 17}, {3, 0, 14}, {4, -1, -1}, {-1, -1, -1}};
        for (int[] d : due) {
            check.due("bears(0," + d[0] + ")", x.bears(0, d[0]), d[1]);
            check.due("breaks(0," + d[0] + ")", x.breaks(0, d[0]), d[2]);
        }
        x.take(0, 4);
        for (int n = 0; n <= 3; n++) {
            check.due("bears(0," + n + ")", x.bears(0, n), 1);
            check.due("breaks(0," + n + ")", x.breaks(0, n), -2);
        }
        x = Check.told("row w{out 1;}row v{" + "skip;".repeat(13) + "set ka 1;set ka 1;out ka;}trial;");
        check.due("bears(0,1)", x.bears(0, 1), 0);
        check.due("bears(0,2) of one LINE", x.bears(0, 2), 1);
        check.due("breaks(0,3) of one LINE", x.breaks(0, 3), -2);
        check.due("breaks(1,1)", x.breaks(1, 1), 32768);
        check.due("breaks(1,2)", x.breaks(1, 2), 8192 + 16384);
        check.due("breaks(1,3)", x.breaks(1, 3), 1 + 8192 + 16384);
    }

    private static void idleHarmWorst() {
        check.about("promises 15 to 17");
        MiceEngine x = Check.told("row w{skip;set ka in;if ka<2 x;out 9;x:out ka;}trial 1;trial 2;trial 3;trial 0;");
        int[] harm = {0, 3, 2, 2, 4};
        for (int i = 0; i < harm.length; i++) {
            check.due("harm(0," + i + ")", x.harm(0, i), harm[i]);
        }
        check.due("idle(0)", x.idle(0), 1);
        check.due("worst(0)", x.worst(0), 4);
        x = Check.told("row w{skip;out 1;out 2;}trial;");
        check.due("the first of alike ones", x.worst(0), 1);
        x = Check.told("row w{skip;out 1;out 2;}row e{}");
        check.due("worst without trials", x.worst(0), 0);
        check.due("idle without trials", x.idle(0), 7);
        check.due("harm without trials", x.harm(0, 1), 0);
        check.due("worst of no LINES", x.worst(1), -2);
        check.due("idle of no LINES", x.idle(1), 0);
        check.due("harm of no LINE", x.harm(1, 0), -1);
    }

    private static void pair() {
        check.about("promise 18");
        MiceEngine x = Check.told("row w{set kb 1;set ka 2;skip;set ka 2;set kb 1;set kb 1;out ka;out kb;}trial;");
        check.due("idle(0)", x.idle(0), 63);
        check.due("pair(0)", x.pair(0), 103);
        x.put(0, 1, 1);
        check.due("of three any two may go", x.pair(0), -2);
        x = Check.told("row w{" + "skip;".repeat(13) + "set ka 1;set ka 1;out ka;}row v{}row u{out 1;out 1;}trial;");
        check.due("pair(0)", x.pair(0), 1314);
        check.due("pair(1)", x.pair(1), -2);
        check.due("pair(2)", x.pair(2), -2);
    }

    private static void mends() {
        check.about("promise 19");
        MiceEngine x = Check.told("row w{set ka 1;add ka 1;out ka;x:if ka<1 x;end;out 5;}row v{" + "skip;".repeat(16)
            + "}row e{}trial;");
        check.due("mends(0)", x.mends(0), 1 + 8 + 16 + 32);
        check.due("mends of 16 LINES", x.mends(1), -2);
        check.due("mends of no LINES", x.mends(2), 0);
        x.take(1, 0);
        check.due("mends of 15 LINES", x.mends(1), 32767);
        x = Check.told("row w{skip;set ka 1;}trial;fuel 2;");
        check.due("mends beyond the FUEL", x.mends(0), 0);
        x = Check.told("row w{out 1;}");
        check.due("mends without trials", x.mends(0), 1);
    }

    private static void life() {
        check.about("promise 22");
        MiceEngine x = Check.told("row w{skip;x:skip;if ka<0 x;out 1;skip;x:set ka-1;}row e{}trial;");
        check.due("life(0,0,0)", x.life(0, 0, 0), 3);
        check.due("life(0,1,0)", x.life(0, 1, 0), 4);
        // The longest goes first, x:set ka-1, then the if, then x:skip, then out 1.
        check.due("TOKENS", x.line(0, 2, 1), 5);
        check.due("TOKENS", x.line(0, 5, 1), 6);
        check.due("life(0,2,0)", x.life(0, 2, 0), 4);
        check.due("life(1,0,0)", x.life(1, 0, 0), 1);
        check.due("life(0,-1,0)", x.life(0, -1, 0), -1);
        check.due("life(0,4,0)", x.life(0, 4, 0), -1);
        check.due("life(2,0,0)", x.life(2, 0, 0), -1);
        x = Check.told("row w{skip;skip;skip;}trial;");
        for (int law = 0; law < 4; law++) {
            check.due("life to the end", x.life(0, law, 5), 4);
        }
    }

    /** With only one LINE that harms, law 3 tells by its LIFE when the LOT fell on it. */
    private static void lot() {
        check.about("promise 22: law 3");
        for (int at = 0; at < 5; at++) {
            MiceEngine x = Check.told("row w{" + "skip;".repeat(at) + "out 1;" + "skip;".repeat(4 - at) + "}trial;");
            for (int seed : new int[] {0, 1, 2, 3, 12345, -1, -2147483648, 2147483647, 99, 1000000007}) {
                check.due("life(0,3," + seed + ") of " + at, x.life(0, 3, seed), lifeOf(at, seed));
            }
        }
        MiceEngine x = Check.told("row w{skip;out 1;}trial;");
        // By hand, SEED 0: 22 * 1103515245 + 12345 is 2802511255, with its own upper bits 2802557826; for which 0
        // likewise 609381011, then 609362487; moved down 304681243, which is odd: LINE 1 goes first.
        int[] due = {1, 2, 2, 2, 1, 1};
        for (int seed = 0; seed < due.length; seed++) {
            check.due("life(0,3," + seed + ")", x.life(0, 3, seed), due[seed]);
        }
    }

    private static int lifeOf(int at, int seed) {
        java.util.List<Integer> there = new java.util.ArrayList<>(java.util.List.of(0, 1, 2, 3, 4));
        for (int gone = 0; ; gone++) {
            if (there.remove(Oracle.lot(there.size(), seed, gone)) == at) {
                return gone + 1;
            }
        }
    }

    private static void noSuchOnes() {
        check.about("no such ones");
        MiceEngine x = Check.told("row w{out 1;}trial;");
        for (int row : new int[] {-1, 1, 4, 2147483647, -2147483648}) {
            check.due("same", x.same(row, 0), -1);
            check.due("differs", x.differs(row, 0), -1);
            check.due("bears", x.bears(row, 0), -1);
            check.due("breaks", x.breaks(row, 0), -1);
            check.due("idle", x.idle(row), -1);
            check.due("harm", x.harm(row, 0), -1);
            check.due("worst", x.worst(row), -1);
            check.due("pair", x.pair(row), -1);
            check.due("mends", x.mends(row), -1);
            check.due("life", x.life(row, 0, 0), -1);
        }
        check.due("same(0,2)", x.same(0, 2), -1);
        check.due("same(0,-1)", x.same(0, -1), -1);
        check.due("differs(0,2)", x.differs(0, 2), -1);
        check.due("differs(0,-1)", x.differs(0, -1), -1);
        check.due("harm(0,1)", x.harm(0, 1), -1);
        check.due("harm(0,-1)", x.harm(0, -1), -1);
    }
}
