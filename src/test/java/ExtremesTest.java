/** All calls with the least, the greatest and other odd ints, held against the Oracle: nothing throws. */
public final class ExtremesTest {
    private static final Check check = new Check();
    private static final int[] ODD = {-2147483648, -2147483647, -65536, -33, -32, -3, -2, -1, 0, 1, 2, 3, 4, 5, 6, 7,
        8, 9, 12, 13, 15, 16, 17, 20, 21, 31, 32, 33, 255, 32768, 65535, 65536, 131072, 1 << 30, 2147483647};
    private static MiceEngine x;
    private static Oracle o;

    public static void main(String[] args) {
        String[] texts = {
            "",
            "row e{}trial;fuel 1;",
            "row v{x:add ka in;if ka<4 x;out ka;}row w{call v;skip;out in;}trial 1 2;trial 3 gives 3 0;fuel 20;",
            "row w{" + "out in;skip;".repeat(8) + "}" + "trial 1 -1;".repeat(8)
        };
        for (String text : texts) {
            x = Check.told(text);
            o = new Oracle();
            o.tape.append(text);
            o.read();
            check.about(text);
            for (int a : ODD) {
                one(a);
                for (int b : ODD) {
                    two(a, b);
                    for (int c : ODD) {
                        three(a, b, c);
                    }
                }
            }
            changes();
        }
        check.end();
    }

    private static void one(int a) {
        check.due("lines " + a, x.lines(a), o.lines(a));
        check.due("idle " + a, x.idle(a), o.idle(a));
        check.due("worst " + a, x.worst(a), o.worst(a));
        check.due("pair " + a, x.pair(a), o.pair(a));
        check.due("mends " + a, x.mends(a), o.mends(a));
        check.due("reached " + a, x.reached(a), o.reached(a));
        check.due("soonest " + a, x.soonest(a), o.soonest(a));
        check.due("mean " + a, x.mean(a, true), o.mean(a, true));
        check.due("mean " + a, x.mean(a, false), o.mean(a, false));
        check.due("count " + a, x.count(a), o.count(a));
        check.due("back " + a, x.back(a), o.back(a));
    }

    private static void two(int a, int b) {
        String of = a + ", " + b;
        check.due("same " + of, x.same(a, b), o.same(a, b));
        check.due("differs " + of, x.differs(a, b), o.differs(a, b));
        check.due("bears " + of, x.bears(a, b), o.bears(a, b));
        check.due("breaks " + of, x.breaks(a, b), o.breaks(a, b));
        check.due("harm " + of, x.harm(a, b), o.harm(a, b));
        check.due("ways " + of, x.ways(a, b), o.ways(a, b));
        check.due("core " + of, x.core(a, b), o.core(a, b));
        check.due("does " + of, x.does(a, b), o.does(a, b));
    }

    private static void three(int a, int b, int c) {
        String of = a + ", " + b + ", " + c;
        check.due("line " + of, x.line(a, b, c), o.line(a, b, c));
        check.due("run " + of, x.run(a, b, c), o.run(a, b, c));
        check.due("life " + of, x.life(a, b, c), o.life(a, b, c));
        check.due("sought " + of, x.sought(a, Math.min(b, 3), c), o.sought(a, Math.min(b, 3), c));
        if (b == 6) {
            check.due("sought " + of, x.sought(a, b, c), o.sought(a, b, c));
        }
        check.due("suspects " + of, x.suspects(a, b, c), o.suspects(a, b, c));
        check.due("next " + of, x.next(a, b, c), o.next(a, b, c));
        check.due("most " + of, x.most(a, b, c), o.most(a, b, c));
        for (int d : new int[] {-2147483648, -1, 0, 1, 7, 8, 2147483647}) {
            check.due("after " + of + ", " + d, x.after(a, b, c, d), o.after(a, b, c, d));
            check.due("out " + of + ", " + d, x.out(a, b, c, d), o.out(a, b, c, d));
            check.due("step " + of + ", " + d, x.step(a, b, c, d), o.step(a, b, c, d));
            check.due("suspect " + of + ", " + d, x.suspect(a, b, c, d), o.suspect(a, b, c, d));
            int n = Math.min(b, 2);
            check.due("soughtAt " + of + ", " + d, x.soughtAt(a, n, c, d), o.soughtAt(a, n, c, d));
        }
    }

    private static void changes() {
        for (int a : ODD) {
            check.due("hold " + a, x.hold(a), o.hold(a));
            check.due("restore " + a, x.restore(a), o.restore(a));
            for (int b : ODD) {
                for (int c : ODD) {
                    check.due("see", x.see(a, b, c), o.see(a, b, c));
                    check.due("put", x.put(a, b, c), o.put(a, b, c));
                }
                check.due("take", x.take(a, b), o.take(a, b));
            }
            check.due("feed", x.feed(a, a, a, a, a), o.feed(a, a, a, a, a));
        }
        check.due("read()", x.read(), o.read());
        check.due("place()", x.place(), o.place);
        check.due("forget()", x.forget(), o.forget());
    }
}
