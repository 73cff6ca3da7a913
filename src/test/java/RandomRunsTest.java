import java.util.Random;

/** Random calls on random texts, each held against the Oracle: all promises. */
public final class RandomRunsTest {
    private static final Check check = new Check();
    private static Random lot;
    private static MiceEngine x;
    private static Oracle o;

    public static void main(String[] args) {
        int rounds = args.length > 0 ? Integer.parseInt(args[0]) : 700;
        int from = args.length > 1 ? Integer.parseInt(args[1]) : 0;
        for (int seed = from; seed < from + rounds; seed++) {
            lot = Check.lot(seed);
            x = new MiceEngine();
            o = new Oracle();
            round(seed);
        }
        check.end();
    }

    private static void round(int seed) {
        TextMaker maker = new TextMaker(lot);
        int style = lot.nextInt(10);
        for (int texts = 1 + lot.nextInt(3); texts > 0; texts--) {
            String text;
            if (style < 6) {
                text = maker.good(3, 7, 4, 40);
            } else if (style < 8) {
                text = maker.good(4, 12, 8, 60);
            } else if (style == 8) {
                text = maker.good(2, 16, 3, 300);
            } else {
                text = maker.good(4, 16, 8, 300);
            }
            check.about("seed " + seed + ": " + text);
            tell(lot.nextInt(8) == 0 ? maker.broken(text) : text);
            for (int i = 0; i < 120; i++) {
                call(style);
            }
        }
    }

    private static void tell(String text) {
        Check.feed(x, text);
        o.tape.append(text);
        check.due("count(5)", x.count(5), o.count(5));
        check.due("read()", x.read(), o.read());
        check.due("place()", x.place(), o.place);
    }

    private static int row() {
        return lot.nextInt(12) == 0 ? lot.nextInt(7) - 1 : lot.nextInt(Math.max(1, o.count(0)));
    }

    private static int trial() {
        return lot.nextInt(12) == 0 ? lot.nextInt(11) - 1 : lot.nextInt(Math.max(1, o.count(1)));
    }

    private static int lost(int r) {
        int size = Math.max(0, o.lines(r));
        int kind = lot.nextInt(10);
        if (kind == 0) {
            return lot.nextInt(20) - 1;
        }
        int lost = kind < 3 ? 0 : size == 0 ? 0 : 1 << lot.nextInt(size);
        if (kind > 6 && size > 0) {
            lost |= 1 << lot.nextInt(size);
        }
        return kind == 9 ? lot.nextInt(1 << size) : lost;
    }

    private static int small(int limit) {
        return lot.nextInt(10) == 0 ? lot.nextInt(limit + 5) - 2 : lot.nextInt(limit);
    }

    private static void call(int style) {
        int r = row();
        switch (lot.nextInt(14)) {
            case 0:
            case 1:
                runs(r);
                break;
            case 2:
            case 3:
                losses(r);
                break;
            case 4:
                orders(r, style);
                break;
            case 5:
                seek(r, style);
                break;
            case 6:
            case 7:
                changes(r);
                break;
            case 8:
            case 9:
            case 10:
                suspicion(r, style);
                break;
            case 11:
                slots();
                break;
            case 12:
                lines(r);
                break;
            default:
                int what = lot.nextInt(33) - 2;
                check.due("count(" + what + ")", x.count(what), o.count(what));
        }
    }

    private static void runs(int r) {
        int lost = lost(r);
        int t = trial();
        String of = "(" + r + ", " + lost + ", " + t + ")";
        check.due("run" + of, x.run(r, lost, t), o.run(r, lost, t));
        for (int i = -1; i < 8; i++) {
            check.due("after" + of + i, x.after(r, lost, t, i), o.after(r, lost, t, i));
            check.due("out" + of + i, x.out(r, lost, t, i), o.out(r, lost, t, i));
        }
        for (int i = -1; i < 310; i += 1 + lot.nextInt(20)) {
            check.due("step" + of + i, x.step(r, lost, t, i), o.step(r, lost, t, i));
        }
    }

    private static void losses(int r) {
        int lost = lost(r);
        check.due("same(" + r + ", " + lost + ")", x.same(r, lost), o.same(r, lost));
        check.due("differs(" + r + ", " + lost + ")", x.differs(r, lost), o.differs(r, lost));
        check.due("idle(" + r + ")", x.idle(r), o.idle(r));
        int l = small(17);
        check.due("harm(" + r + ", " + l + ")", x.harm(r, l), o.harm(r, l));
        check.due("worst(" + r + ")", x.worst(r), o.worst(r));
        check.due("pair(" + r + ")", x.pair(r), o.pair(r));
        check.due("mends(" + r + ")", x.mends(r), o.mends(r));
        check.due("reached(" + r + ")", x.reached(r), o.reached(r));
        int n = o.lines(r) > 12 ? small(2) : small(4);
        check.due("bears(" + r + ", " + n + ")", x.bears(r, n), o.bears(r, n));
        check.due("breaks(" + r + ", " + n + ")", x.breaks(r, n), o.breaks(r, n));
        for (int law = -1; law < 5; law++) {
            int seed = lot.nextBoolean() ? lot.nextInt() : lot.nextInt(5);
            check.due("life(" + r + ", " + law + ", " + seed + ")", x.life(r, law, seed), o.life(r, law, seed));
        }
        check.due("does(" + r + ", " + lost + ")", x.does(r, lost), o.does(r, lost));
    }

    private static void orders(int r, int style) {
        if (o.lines(r) > 8 && o.lines(r) <= 12 && lot.nextInt(style < 8 ? 6 : 40) != 0) {
            return;
        }
        check.due("soonest(" + r + ")", x.soonest(r), o.soonest(r));
        for (int k = -1; k <= 13; k++) {
            check.due("ways(" + r + ", " + k + ")", x.ways(r, k), o.ways(r, k));
        }
        check.due("mean(" + r + ", false)", x.mean(r, false), o.mean(r, false));
        check.due("mean(" + r + ", true)", x.mean(r, true), o.mean(r, true));
        for (int what = -1; what < 3; what++) {
            check.due("core(" + r + ", " + what + ")", x.core(r, what), o.core(r, what));
        }
    }

    private static void seek(int r, int style) {
        int n = style > 7 || lot.nextInt(8) != 0 ? small(4) : small(6);
        int m = lot.nextInt(12) == 0 ? small(3) : lot.nextInt(2);
        String of = "(" + r + ", " + n + ", " + m + ")";
        int due = o.sought(r, n, m);
        check.due("sought" + of, x.sought(r, n, m), due);
        for (int i = -1; due > -2 && i <= due && i < 6; i++) {
            check.due("soughtAt" + of + i, x.soughtAt(r, n, m, i), o.soughtAt(r, n, m, i));
        }
        check.due("soughtAt" + of + 0, due < 0 ? x.soughtAt(r, n, m, 0) : 0, due < 0 ? -1 : 0);
    }

    private static void changes(int r) {
        int l = small(Math.max(1, o.lines(r)));
        if (lot.nextInt(3) > 0) {
            int to = small(Math.max(0, o.lines(r)) + 1);
            check.due("put(" + r + ", " + l + ", " + to + ")", x.put(r, l, to), o.put(r, l, to));
        } else {
            check.due("take(" + r + ", " + l + ")", x.take(r, l), o.take(r, l));
        }
        check.due("count(4)", x.count(4), o.count(4));
    }

    private static void suspicion(int r, int style) {
        int lost = lost(r);
        for (int i = lot.nextInt(4); i > 0; i--) {
            int t = trial();
            check.due("see(" + r + ", " + t + ", " + lost + ")", x.see(r, t, lost), o.see(r, t, lost));
        }
        int n = style > 7 && lot.nextInt(4) != 0 ? small(2) : small(3);
        int k = lot.nextInt(12) == 0 ? small(22) : lot.nextInt(o.count(4) + 1);
        String of = "(" + r + ", " + n + ", " + k + ")";
        check.due("suspects" + of, x.suspects(r, n, k), o.suspects(r, n, k));
        int i = small(20);
        check.due("suspect" + of + i, x.suspect(r, n, k, i), o.suspect(r, n, k, i));
        check.due("next" + of, x.next(r, n, k), o.next(r, n, k));
        check.due("most" + of, x.most(r, n, k), o.most(r, n, k));
        if (lot.nextInt(15) == 0) {
            check.due("forget()", x.forget(), o.forget());
        }
    }

    private static void slots() {
        int slot = small(3);
        if (lot.nextBoolean()) {
            check.due("hold(" + slot + ")", x.hold(slot), o.hold(slot));
        } else {
            check.due("restore(" + slot + ")", x.restore(slot), o.restore(slot));
        }
        check.due("count(6)", x.count(6), o.count(6));
    }

    private static void lines(int r) {
        check.due("lines(" + r + ")", x.lines(r), o.lines(r));
        int l = small(17);
        for (int what = -1; what < 4; what++) {
            check.due("line(" + r + ", " + l + ", " + what + ")", x.line(r, l, what), o.line(r, l, what));
        }
    }
}
