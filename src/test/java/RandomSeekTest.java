import java.util.ArrayList;
import java.util.List;
import java.util.Random;

/** Promises 27 to 29 on texts whose TABLE is what some row of the LINES really DOES, with and without a loss. */
public final class RandomSeekTest {
    private static final Check check = new Check();

    public static void main(String[] args) {
        int[][] found = new int[2][6];
        for (int seed = 0; seed < 1500; seed++) {
            Random lot = Check.lot(seed);
            int m = lot.nextInt(2);
            String text = withTable(lot, m);
            if (text == null) {
                continue;
            }
            MiceEngine x = Check.told(text);
            Oracle o = new Oracle();
            o.tape.append(text);
            o.read();
            check.about("seed " + seed + ": " + text);
            int r = o.count(0) - 1;
            int due = o.sought(r, 4, m);
            found[m][Math.max(due, 0)]++;
            compare(x, o, r, m, due);
        }
        for (int m = 0; m < 2; m++) {
            for (int size = 1 + m; size <= 4; size++) {
                check.due("enough rows of " + size + " LINES sought with losses " + m, found[m][size] > 5 ? 1 : 0, 1);
            }
        }
        check.end();
    }

    private static void compare(MiceEngine x, Oracle o, int r, int m, int due) {
        check.due("sought(" + r + ", 4, " + m + ")", x.sought(r, 4, m), due);
        List<Integer> lines = o.seek(r, 4, m);
        for (int i = -1; i <= 4; i++) {
            int want = due <= 0 || i < 0 || i >= due ? -1 : lines.get(i);
            check.due("soughtAt(" + r + ", 4, " + m + ", " + i + ")", x.soughtAt(r, 4, m, i), want);
        }
        for (int n = 0; n < 4; n++) {
            int want = due > n || due == -2 ? -2 : due;
            if (due != -3) {
                check.due("sought(" + r + ", " + n + ", " + m + ")", x.sought(r, n, m), want);
            }
            check.due("sought of the other losses", x.sought(r, Math.min(n, 3), 1 - m),
                o.sought(r, Math.min(n, 3), 1 - m));
        }
        for (int lost = 0; lost < 1 << o.lines(r); lost += 1 + lost / 3) {
            check.due("does(" + r + ", " + lost + ")", x.does(r, lost), o.does(r, lost));
        }
    }

    /** Looks for a row that puts something out and bears m losses, and tells as gives what it puts out. */
    private static String withTable(Random lot, int m) {
        String rows = lot.nextInt(3) == 0 ? new TextMaker(lot).good(2, 7, 1, 30).replaceAll("(trial|fuel).*", "")
            : bearing(lot);
        int trials = 1 + lot.nextInt(3);
        StringBuilder bare = new StringBuilder(rows);
        String[] ins = new String[trials];
        for (int t = 0; t < trials; t++) {
            ins[t] = "trial " + lot.nextInt(3) + " " + lot.nextInt(3);
            bare.append(ins[t]).append(";");
        }
        Oracle o = new Oracle();
        o.tape.append(bare);
        if (o.read() != 0) {
            throw new IllegalStateException(bare.toString());
        }
        int r = o.count(0) - 1;
        int least = 1 + lot.nextInt(4);
        for (int i = 0; i < 300 && o.lines(r) > 0; i++) {
            List<Oracle.Line> row = new ArrayList<>();
            boolean inPairs = i % 3 == 0;
            for (int size = inPairs ? 2 : least + lot.nextInt(5 - least); size > 0; size--) {
                Oracle.Line line = o.now.rows.get(r).get(lot.nextInt(o.lines(r)));
                row.add(line);
                if (inPairs) {
                    row.add(line);
                }
            }
            String text = tableOf(o, row, r, m, ins, rows);
            if (text != null) {
                return text;
            }
        }
        return null;
    }

    /** ROWS that put out once, or at their second call, however often they are called: rows of these bear losses. */
    private static String bearing(Random lot) {
        String[] p = {
            "row p { if kd != 0 x; set kd 1; out 1; x: skip; } ",
            "row p { add kd 1; if kd != 2 x; out in; x: skip; } "
        };
        String q = "row q { if kc != 0 x; set kc 1; out 2; x: skip; } ";
        String[] lines = {"call p; ", "call p; ", "call q; ", "x: end; ", "go x; ", "out 1; ", "if in < 1 x; ", "skip; "};
        StringBuilder w = new StringBuilder("row w { ");
        for (int i = 2 + lot.nextInt(4); i > 0; i--) {
            w.append(lines[lot.nextInt(lines.length)]);
        }
        return p[lot.nextInt(2)] + q + w + "x: skip; } ";
    }

    private static String tableOf(Oracle o, List<Oracle.Line> row, int r, int m, String[] ins, String rows) {
        StringBuilder text = new StringBuilder(rows);
        boolean putsOut = false;
        for (int t = 0; t < ins.length; t++) {
            Oracle.Ran ran = o.run(row, r, 0, t);
            for (int i = 0; i < row.size() && m == 1; i++) {
                if (!o.run(row, r, 1 << i, t).does().equals(ran.does())) {
                    return null;
                }
            }
            if (ran.how != 0) {
                return null;
            }
            putsOut |= !ran.output.isEmpty();
            text.append(ins[t]).append(" gives ");
            text.append(ran.output.toString().replaceAll("[\\[\\],]", " ")).append(";");
        }
        return putsOut ? text.toString() : null;
    }
}
