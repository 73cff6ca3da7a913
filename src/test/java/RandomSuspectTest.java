import java.util.Random;

/** Promises 32 to 37 on ROWS whose losses show in some TRIALS only, so that it takes many to tell them apart. */
public final class RandomSuspectTest {
    private static final Check check = new Check();
    private static final String[] TESTS = {"==", "==", "==", "<", "<=", "!="};

    public static void main(String[] args) {
        int[] mosts = new int[7];
        int[] nexts = new int[9];
        for (int seed = 0; seed < 700; seed++) {
            Random lot = Check.lot(seed);
            String text = decider(lot);
            MiceEngine x = Check.told(text);
            Oracle o = new Oracle();
            o.tape.append(text);
            o.read();
            check.about("seed " + seed + ": " + text);
            for (int sights = 0; sights <= 3; sights++) {
                for (int n = 0; n <= 2; n++) {
                    int k = lot.nextInt(sights + 1);
                    compare(x, o, n, k);
                    mosts[o.most(0, n, k) + 2]++;
                    nexts[Math.max(0, o.next(0, n, k))]++;
                }
                int lost = 1 << lot.nextInt(o.lines(0));
                int t = lot.nextInt(o.count(1));
                check.due("see(0, " + t + ", " + lost + ")", x.see(0, t, lost), o.see(0, t, lost));
            }
        }
        for (int most : new int[] {-2, 0, 1, 2, 3, 4}) {
            check.due("enough answers " + most + " of most()", mosts[most + 2] > 5 ? 1 : 0, 1);
        }
        for (int next = 0; next < 6; next++) {
            check.due("enough answers " + next + " of next()", nexts[next] > 5 ? 1 : 0, 1);
        }
        check.end();
    }

    private static void compare(MiceEngine x, Oracle o, int n, int k) {
        String of = "(0, " + n + ", " + k + ")";
        int many = o.suspects(0, n, k);
        check.due("suspects" + of, x.suspects(0, n, k), many);
        check.due("next" + of, x.next(0, n, k), o.next(0, n, k));
        check.due("most" + of, x.most(0, n, k), o.most(0, n, k));
        for (int i = -1; i <= many; i++) {
            int want = i < 0 || i >= many ? -1 : o.suspectSets(0, n, k).get(i);
            check.due("suspect" + of + i, x.suspect(0, n, k, i), want);
        }
    }

    private static String decider(Random lot) {
        StringBuilder text = new StringBuilder("row w { set ka in; ");
        int tests = 2 + lot.nextInt(9);
        boolean isPlain = lot.nextBoolean();
        for (int i = 0; i < tests; i++) {
            String test = TESTS[isPlain ? 0 : lot.nextInt(TESTS.length)];
            text.append("if ka ").append(test).append(' ').append(isPlain ? i : lot.nextInt(6));
            text.append(lot.nextInt(4) == 0 ? " y; " : " x; ");
        }
        text.append("out 0; end; x: out 1; y: out 2; } ");
        int trials = 1 + lot.nextInt(8);
        for (int t = 0; t < trials; t++) {
            text.append("trial ").append(isPlain ? trials - 1 - t : lot.nextInt(7)).append(";");
        }
        return text.toString();
    }
}
