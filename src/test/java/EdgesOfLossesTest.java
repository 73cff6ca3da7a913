/** The boundaries that part II names of losses: BEARS to LIFE. */
public final class EdgesOfLossesTest {
    private static final Edges edges = new Edges();
    private static final Check check = edges.check;

    public static void main(String[] args) {
        edges.sentence("BEARS n (0 .. 3): each set of n LINES is SAME (none, if there are not so many).", EdgesOfLossesTest::bears);
        edges.sentence("(none, if there are not so many)", EdgesOfLossesTest::notSoMany);
        edges.sentence("BREAKS: of the sets of n LINES that are not SAME that of the least bits.", EdgesOfLossesTest::breaks);
        edges.sentence("IDLE: LINES that are SAME when lost alone.", EdgesOfLossesTest::idle);
        edges.sentence("HARM of a LINE: in how many TRIALS it DOES something else without it;", EdgesOfLossesTest::harm);
        edges.sentence("WORST LINE: with the greatest HARM; of alike ones the first.", EdgesOfLossesTest::worst);
        edges.sentence("PAIR: two LINES, both IDLE, that are not SAME together: the first by the lesser one, then the other one.",
            EdgesOfLossesTest::pair);
        edges.sentence("MENDS: LINES of which a copy, right behind it, would leave all it DOES as it is, and so with either of "
            + "the two lost (told for ROWS of less than 16 LINES).", EdgesOfLossesTest::mends);
        edges.sentence("(told for ROWS of less than 16 LINES)", EdgesOfLossesTest::lessThan16);
        edges.sentence("REACHED: LINES that are done in some TRIAL.", EdgesOfLossesTest::reached);
        edges.sentence("LIFE by a law: the ROW is run in all TRIALS whole, then with one LINE more lost each time:", EdgesOfLossesTest::laws);
        edges.sentence("by law 0 the last one that is there, 1 the first,", EdgesOfLossesTest::lastAndFirst);
        edges.sentence("2 the longest (TOKENS of the LINE, with its NAME and :, without the ; behind; of alike ones the first),",
            EdgesOfLossesTest::longest);
        edges.sentence("3 the i-th of those that are there: i is LOT (how many there are) of which the number lost so far;",
            EdgesOfLossesTest::byLot);
        edges.sentence("as long as it is SAME: how many times it was so (the whole ROW is the first time, all LINES lost a time as well).",
            EdgesOfLossesTest::times);
        edges.sentence("the rest of h, moved 1 bit down likewise, by n (32 bits that wrap).", EdgesOfLossesTest::lotByHand);
        edges.sentence("LOT n of a SEED and a which: h is the SEED; for each of 22, which: h becomes (h and it, each bit of which is in just "
            + "one) times 1103515245 and 12345 more, then h and h moved 15 bits down (zeros come in), likewise;",
            EdgesOfLossesTest::lotOfBits);
        check.end();
    }

    private static void bears(MiceEngine x, int row, int n, int due, int broken) {
        check.due("bears(" + row + "," + n + ")", x.bears(row, n), due);
        check.due("breaks(" + row + "," + n + ")", x.breaks(row, n), broken);
    }

    private static void bears() {
        // Of three ends one is enough.
        MiceEngine x = Check.told("row w{end;end;end;out 1;}row v{end;end;out 1;}row u{end;out 1;}row t{end;end;end;end;out 1;}trial;");
        bears(x, 0, 0, 1, -2);
        bears(x, 0, 1, 1, -2);
        bears(x, 0, 2, 1, -2);
        bears(x, 0, 3, 0, 7);
        bears(x, 1, 0, 1, -2);
        bears(x, 1, 1, 1, -2);
        bears(x, 1, 2, 0, 3);
        bears(x, 1, 3, 1, -2);
        bears(x, 2, 0, 1, -2);
        bears(x, 2, 1, 0, 1);
        bears(x, 3, 3, 1, -2);
        for (int n : new int[] {-2147483648, -1, 4, 5, 16, 2147483647}) {
            bears(x, 0, n, -1, -1);
        }
        x = Check.told("row w{out 1;div ka 0;}");
        for (int n = 0; n <= 3; n++) {
            bears(x, 0, n, 1, -2);
        }
    }

    private static void notSoMany() {
        // Each LINE harms, so only the lack of sets bears.
        MiceEngine x = Check.told("row e{}row a{out 1;}row b{out 1;out 2;}row c{out 1;out 2;out 3;}trial;");
        for (int r = 0; r < 4; r++) {
            for (int n = 0; n <= 3; n++) {
                boolean isBorne = n == 0 || n > r;
                bears(x, r, n, isBorne ? 1 : 0, isBorne ? -2 : (1 << n) - 1);
            }
        }
    }

    private static void breaks() {
        // Only LINES 1 and 3 together harm: 0 and 1 with 3 is the least set of three.
        MiceEngine x = Check.told("row w{skip;set ka 1;skip;set ka 1;if ka==1 x;out 7;x:skip;}trial;");
        bears(x, 0, 1, 0, 16 + 0);
        bears(x, 0, 2, 0, 10);
        bears(x, 0, 3, 0, 11);
        x = Check.told("row w{" + "skip;".repeat(15) + "out 1;}trial;");
        bears(x, 0, 1, 0, 32768);
        bears(x, 0, 2, 0, 32769);
        bears(x, 0, 3, 0, 32771);
        x = Check.told("row w{out 1;" + "skip;".repeat(15) + "}trial;");
        bears(x, 0, 1, 0, 1);
        bears(x, 0, 2, 0, 3);
        bears(x, 0, 3, 0, 7);
        // The least bits, not the first by the lesser LINE: 1 and 2 come ahead of 0 and 3.
        x = Check.told("row w{set ka 1;set kb 1;set kb 1;set ka 1;out ka;out kb;}trial;");
        bears(x, 0, 1, 0, 16);
        bears(x, 0, 2, 0, 6);
        check.due("same(0,9)", x.same(0, 9), 0);
        x = Check.told("row w{" + "skip;".repeat(16) + "}trial;");
        for (int n = 0; n <= 3; n++) {
            bears(x, 0, n, 1, -2);
        }
    }

    private static void idle() {
        MiceEngine x = Check.told("row e{}row w{skip;out 1;skip;}row v{" + "skip;".repeat(16) + "}row u{out 1;" + "skip;".repeat(14)
            + "out 2;}trial;");
        check.due("idle(0)", x.idle(0), 0);
        check.due("idle(1)", x.idle(1), 5);
        check.due("idle(2)", x.idle(2), 65535);
        check.due("idle(3)", x.idle(3), 32766);
        // Alone: two that only harm together are both IDLE.
        x = Check.told("row w{set ka 1;set ka 1;out ka;}trial;");
        check.due("idle(0)", x.idle(0), 3);
        check.due("without TRIALS", Check.told("row w{out 1;out 2;}").idle(0), 3);
    }

    private static void harm() {
        MiceEngine x = Check.told("row w{skip;if in==1 x;out 1;x:out 2;}" + "trial 1;".repeat(3) + "trial 0;".repeat(5));
        int[] due = {0, 3, 5, 8};
        for (int i = 0; i < 4; i++) {
            check.due("harm(0," + i + ")", x.harm(0, i), due[i]);
        }
        check.due("harm(0,4)", x.harm(0, 4), -1);
        check.due("harm(0,-1)", x.harm(0, -1), -1);
        check.due("without TRIALS", Check.told("row w{out 1;}").harm(0, 0), 0);
        x = Check.told("row w{" + "out 1;".repeat(7) + "skip;".repeat(8) + "out 2;}trial;");
        check.due("harm(0,15)", x.harm(0, 15), 1);
        check.due("harm(0,14)", x.harm(0, 14), 0);
        check.due("harm(0,16)", x.harm(0, 16), -1);
    }

    private static void worst() {
        MiceEngine x = Check.told("row e{}row w{skip;out 1;out 2;}row v{" + "skip;".repeat(15) + "out 1;}row u{skip;skip;}trial;trial 1;");
        check.due("no LINES", x.worst(0), -2);
        check.due("of alike ones the first", x.worst(1), 1);
        check.due("the last of 16", x.worst(2), 15);
        check.due("none harms", x.worst(3), 0);
        x = Check.told("row w{if in==1 x;out 5;x:out 1;}trial 0;trial 0;trial 1;");
        // HARM 1, 2 and 3.
        check.due("the greatest stands last", x.worst(0), 2);
        x.take(0, 2);
        // Without x the jump goes nowhere: only out 5 harms.
        check.due("worst(0)", x.worst(0), 1);
        check.due("without TRIALS", Check.told("row w{skip;out 1;}").worst(0), 0);
        x = Check.told("row w{out 1;}trial;");
        x.take(0, 0);
        check.due("no LINES any more", x.worst(0), -2);
    }

    private static void pair() {
        // 0 with 5, 1 with 4, 2 with 3.
        MiceEngine x = Check.told("row w{set ka 1;set kb 1;set kc 1;set kc 1;set kb 1;set ka 1;out ka;out kb;out kc;}trial;");
        check.due("by the lesser one", x.pair(0), 5);
        check.due("not by the least bits", x.breaks(0, 2), 12);
        // 0 does not harm with 1 but with 2 and 3.
        x = Check.told("row w{set ka 1;skip;if ka==1 x;if ka==1 x;out 9;x:skip;}trial;");
        check.due("idle", x.idle(0), 2 + 4 + 8 + 16);
        check.due("then by the other one", x.pair(0), 203);
        x = Check.told("row w{end;end;out 1;}row v{end;end;end;out 1;}row u{out 1;out 1;}row t{}trial;");
        check.due("pair(0)", x.pair(0), 1);
        check.due("three are no PAIR", x.pair(1), -2);
        check.due("not IDLE", x.pair(2), -2);
        check.due("no LINES", x.pair(3), -2);
        x = Check.told("row w{" + "skip;".repeat(13) + "end;end;out 1;}row v{end;" + "skip;".repeat(13) + "end;out 1;}trial;");
        check.due("pair(0)", x.pair(0), 1314);
        check.due("pair(1)", x.pair(1), 14);
        // The last of 16 LINES: either of the two loops.
        x = Check.told("row w{" + "skip;".repeat(14) + "x:go x;x:go x;}row v{x:go x;" + "skip;".repeat(14) + "x:go x;}trial;");
        check.due("pair(0)", x.pair(0), 1415);
        check.due("pair(1)", x.pair(1), 15);
        x = Check.told("row w{x:set ka 1;out ka;" + "skip;".repeat(12) + "if ka<1 x;if 1==2 x;}row v{skip;}trial;");
        check.due("none", x.pair(0), -2);
        check.due("one LINE", x.pair(1), -2);
        // Only one of the two is IDLE, and both together are not SAME.
        check.due("one IDLE", Check.told("row w{skip;out 1;}trial;").pair(0), -2);
        check.due("without TRIALS", Check.told("row w{end;end;out 1;}").pair(0), -2);
    }

    private static void mends() {
        MiceEngine x = Check.told("row w{set ka 2;mul ka ka;out ka;if ka==4 x;out 8;x:skip;end;out 9;}trial;");
        check.due("set, if, out 8 that is passed, x, end, out 9", x.mends(0), 1 + 8 + 16 + 32 + 64 + 128);
        x = Check.told("row w{out 1;}row e{}trial;");
        check.due("a number twice", x.mends(0), 0);
        check.due("no LINES", x.mends(1), 0);
        // The copy's NAME comes first in nothing: jumps go to the first of both.
        x = Check.told("row w{go x;out 1;x:add ka 1;if ka<2 x;out 2;}trial;");
        check.due("mends(0)", x.mends(0), 1 + 2 + 4 + 8);
        // The STEP that the copy costs.
        x = Check.told("row w{skip;skip;}trial;fuel 2;");
        check.due("beyond the FUEL", x.mends(0), 0);
        x = Check.told("row w{skip;skip;}trial;fuel 3;");
        check.due("within the FUEL", x.mends(0), 3);
        x = Check.told("row w{out 1;div ka 0;}trial;");
        check.due("div by 0 stops ahead of the copy", x.mends(0), 2);
        x = Check.told("row w{set ka 5;div ka in;}trial 3;trial 0;");
        check.due("what comes in twice", x.mends(0), 1);
        check.due("without TRIALS", Check.told("row w{out 1;out 2;}").mends(0), 3);
    }

    private static void lessThan16() {
        for (int size = 14; size <= 16; size++) {
            MiceEngine x = Check.told("row w{" + "skip;".repeat(size - 1) + "out 1;}trial;");
            check.due("mends of " + size, x.mends(0), size == 16 ? -2 : (1 << (size - 1)) - 1);
        }
        MiceEngine x = Check.told("row w{" + "skip;".repeat(15) + "}trial;");
        check.due("15 LINES", x.mends(0), 32767);
        x.put(0, 0, 0);
        check.due("16 LINES", x.mends(0), -2);
        x.take(0, 3);
        check.due("15 LINES", x.mends(0), 32767);
        check.due("lines(0) as they were", x.lines(0), 15);
    }

    private static void reached() {
        MiceEngine x = Check.told("row e{}row w{if in==1 x;end;x:div ka in;out 1;}row v{" + "skip;".repeat(16) + "}trial 0;");
        check.due("no LINES", x.reached(0), 0);
        check.due("reached(1)", x.reached(1), 3);
        check.due("16 LINES", x.reached(2), 65535);
        x = Check.told("row w{if in==1 x;end;x:div ka in;out 1;}trial 0;trial 1 0;");
        check.due("the LINE that divides by 0 is done", x.reached(0), 7);
        x = Check.told("row w{if in==1 x;end;x:div ka in;out 1;}trial 0;trial 1 0;trial 1 1;");
        check.due("in some TRIAL", x.reached(0), 15);
        check.due("without TRIALS", Check.told("row w{skip;}").reached(0), 0);
        x = Check.told("row w{skip;skip;skip;}trial;fuel 2;");
        check.due("within the FUEL", x.reached(0), 3);
        // A LINE that is done in a called ROW alone is none of the ROW that calls.
        x = Check.told("row a{skip;skip;skip;}row w{call a;}trial;");
        check.due("reached(1)", x.reached(1), 1);
        x = Check.told("row a{if ka==1 x;out 1;x:skip;out 2;}row w{set ka 1;call a;}trial;");
        check.due("reached(0) by itself", x.reached(0), 15);
        x = Check.told("row w{" + "out 1;".repeat(10) + "}trial;");
        check.due("the 9th out is done, the 10th is not", x.reached(0), 511);
    }

    private static void laws() {
        MiceEngine x = Check.told("row w{skip;skip;}trial;");
        for (int law : new int[] {-2147483648, -1, 4, 5, 2147483647}) {
            check.due("life(0," + law + ",0)", x.life(0, law, 0), -1);
        }
        for (int law = 0; law <= 3; law++) {
            check.due("life(0," + law + ",0)", x.life(0, law, 0), 3);
            check.due("life(1," + law + ",0)", x.life(1, law, 0), -1);
            check.due("life(-1," + law + ",0)", x.life(-1, law, 0), -1);
        }
        // One LINE more each time: not SAME in one TRIAL of several is enough.
        x = Check.told("row w{skip;if in==2 x;out 1;x:skip;}trial 1;trial 0;trial 2;");
        check.due("the last TRIAL", x.life(0, 1, 0), 2);
    }

    private static void lastAndFirst() {
        MiceEngine x = Check.told("row w{skip;skip;out 1;skip;skip;skip;}trial;");
        check.due("life(0,0,0)", x.life(0, 0, 0), 4);
        check.due("life(0,1,0)", x.life(0, 1, 0), 3);
        x = Check.told("row w{out 1;" + "skip;".repeat(15) + "}row v{" + "skip;".repeat(15) + "out 1;}trial;");
        check.due("life(0,0,0)", x.life(0, 0, 0), 16);
        check.due("life(0,1,0)", x.life(0, 1, 0), 1);
        check.due("life(1,0,0)", x.life(1, 0, 0), 1);
        check.due("life(1,1,0)", x.life(1, 1, 0), 16);
        for (int seed : new int[] {-1, 1, 2147483647}) {
            check.due("the SEED is of law 3 alone", x.life(0, 0, seed), 16);
        }
    }

    private static void longest() {
        // TOKENS 2, 1, 3, 5: the out of two goes third of all, behind x:skip and the set.
        MiceEngine x = Check.told("row w{out 1;skip;x:skip;x:set kb 5;}trial;");
        int[] tokens = {2, 1, 3, 5};
        for (int i = 0; i < 4; i++) {
            check.due("line(0," + i + ",1)", x.line(0, i, 1), tokens[i]);
        }
        check.due("life(0,2,0)", x.life(0, 2, 0), 3);
        // Without NAME and : x:skip would be shorter than out 1.
        x = Check.told("row w{out 1;x:skip;}trial;");
        check.due("with its NAME and :", x.life(0, 2, 0), 2);
        // A - is a TOKEN of its own.
        x = Check.told("row w{set ka 1;set ka-1;out ka;}trial;");
        check.due("set ka-1 goes first", x.life(0, 2, 0), 1);
        // Of alike ones the first: the out that harms stands first, or last.
        x = Check.told("row w{out 1;go x;x:skip;}row v{go x;x:skip;out 1;}trial;");
        check.due("x:skip, then out 1", x.life(0, 2, 0), 2);
        check.due("x:skip, go x, then out 1", x.life(1, 2, 0), 3);
        x = Check.told("row w{" + "skip;".repeat(15) + "out 1;}trial;");
        check.due("the longest stands last", x.life(0, 2, 0), 1);
        x = Check.told("row w{end;" + "skip;".repeat(15) + "}trial;");
        check.due("all alike", x.life(0, 2, 0), 17);
        // LINES of one TOKEN go one by one as well: SAME as long as more than FUEL are there.
        for (int fuel = 1; fuel <= 15; fuel++) {
            x = Check.told("row w{" + "skip;".repeat(16) + "}trial;fuel " + fuel + ";");
            check.due("16 skips with " + fuel, x.life(0, 2, 0), 16 - fuel);
        }
        x = Check.told("row w{skip;end;skip;out 1;end;}trial;");
        check.due("out that is passed, skip, then end", x.life(0, 2, 0), 6);
        x = Check.told("row w{skip;end;skip;out 1;out 2;}trial;fuel 1;");
        check.due("both outs, then skip", x.life(0, 2, 0), 3);
    }

    private static int lot(int n, int seed, int which) {
        int h = seed;
        for (int it : new int[] {22, which}) {
            h = (h ^ it) * 1103515245 + 12345;
            h = h ^ (h >>> 15);
        }
        return (h >>> 1) % n;
    }

    private static void byLot() {
        for (int at = 0; at < 16; at++) {
            MiceEngine x = Check.told("row w{" + "skip;".repeat(at) + "out 1;" + "skip;".repeat(15 - at) + "}trial;");
            for (int seed : new int[] {0, 1, -1, 22, -2147483648, 2147483647, 1000000}) {
                check.due("life(0,3," + seed + ") of " + at, x.life(0, 3, seed), timeOf(16, at, seed));
            }
        }
    }

    private static int timeOf(int size, int at, int seed) {
        java.util.List<Integer> there = new java.util.ArrayList<>();
        for (int i = 0; i < size; i++) {
            there.add(i);
        }
        for (int gone = 0; gone < size; gone++) {
            if (there.remove(lot(size - gone, seed, gone)) == at) {
                return gone + 1;
            }
        }
        return size + 1;
    }

    private static void times() {
        MiceEngine x = Check.told("row e{}row a{out 1;}row b{skip;}row c{" + "skip;".repeat(16) + "}trial;");
        for (int law = 0; law <= 3; law++) {
            check.due("no LINES: the whole ROW is all", x.life(0, law, 9), 1);
            check.due("the whole ROW alone", x.life(1, law, 9), 1);
            check.due("one LINE that does nothing", x.life(2, law, 9), 2);
            check.due("16 and none", x.life(3, law, 9), 17);
        }
        // SAME again later does not count: it lasts as long as it is SAME.
        x = Check.told("row w{skip;add ka 1;sub ka 1;out ka;}trial;");
        check.due("life(0,1,0)", x.life(0, 1, 0), 2);
        x = Check.told("row w{out 1;out 2;}");
        check.due("without TRIALS", x.life(0, 0, 0), 3);
    }

    private static void lotByHand() {
        // SEED 0, which 0: 22 * 1103515245 + 12345 wraps to 2802511255, with its own upper bits 2802557826; then
        // 609381011 and 609362487; moved down 304681243.
        check.due("the LOT of two", lot(2, 0, 0), 304681243 % 2);
        check.due("the LOT of 16", lot(16, 0, 0), 304681243 % 16);
        MiceEngine x = Check.told("row w{skip;out 1;}row v{out 1;skip;}trial;");
        check.due("LINE 1 goes first", x.life(0, 3, 0), 1);
        check.due("LINE 1 goes first", x.life(1, 3, 0), 2);
        // A LOT whose h is below 0 as an int: zeros come in, so that i is none below 0.
        boolean[] met = new boolean[16];
        for (int seed = -200; seed < 200; seed++) {
            int i = lot(16, seed, 0);
            met[i] = true;
        }
        for (int i = 0; i < 16; i++) {
            check.due("LOT of 16 is " + i + " for some SEED", met[i], true);
        }
    }

    /** The same LOT by whole numbers that are cut to 32 bits, asked for by which LINE goes first, second, third. */
    private static int plainLot(int n, int seed, int which) {
        java.math.BigInteger cut = java.math.BigInteger.ONE.shiftLeft(32);
        java.math.BigInteger h = java.math.BigInteger.valueOf(seed).mod(cut);
        for (int it : new int[] {22, which}) {
            h = h.xor(java.math.BigInteger.valueOf(it)).multiply(java.math.BigInteger.valueOf(1103515245))
                .add(java.math.BigInteger.valueOf(12345)).mod(cut);
            h = h.xor(h.divide(java.math.BigInteger.valueOf(32768)));
        }
        return h.divide(java.math.BigInteger.TWO).mod(java.math.BigInteger.valueOf(n)).intValue();
    }

    private static void lotOfBits() {
        int[] seeds = {0, 1, 22, 23, -1, -2, 2147483647, -2147483648, 32767, 32768, 65536, 1103515245, -12345, 1 << 30, 0x55555555};
        for (int seed : seeds) {
            for (int which = 0; which < 16; which++) {
                for (int n = 1; n <= 16; n++) {
                    check.due("LOT " + n + " of " + seed + " and " + which, lot(n, seed, which), plainLot(n, seed, which));
                }
            }
            for (int size = 1; size <= 16; size++) {
                for (int at = 0; at < size; at++) {
                    MiceEngine x = Check.told("row w{" + "skip;".repeat(at) + "out 1;" + "skip;".repeat(size - 1 - at) + "}trial;");
                    check.due("life(0,3," + seed + ") of " + at + " of " + size, x.life(0, 3, seed), timeOf(size, at, seed));
                }
            }
        }
    }
}
