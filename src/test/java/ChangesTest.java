/** Promises 30 to 33, 38 to 40: LINES put in and taken out, what is SEEN, SLOTS, counts. */
public final class ChangesTest {
    private static final Check check = new Check();

    public static void main(String[] args) {
        putting();
        taking();
        seeing();
        slots();
        counts();
        check.end();
    }

    private static void orders(MiceEngine x, int row, int... due) {
        check.due("lines(" + row + ")", x.lines(row), due.length);
        for (int i = 0; i < due.length; i++) {
            check.due("line(" + row + "," + i + ",0)", x.line(row, i, 0), due[i]);
        }
        check.due("no more LINES", x.line(row, due.length, 0), -1);
    }

    private static void putting() {
        check.about("promise 30");
        MiceEngine x = Check.told("row e{}row w{set ka 1;x:add ka 2;go x;}trial;");
        check.due("put(1,2,0)", x.put(1, 2, 0), 4);
        orders(x, 1, 6, 0, 1, 6);
        check.due("put(1,1,4)", x.put(1, 1, 4), 5);
        orders(x, 1, 6, 0, 1, 6, 0);
        check.due("put(1,2,2)", x.put(1, 2, 2), 6);
        orders(x, 1, 6, 0, 1, 1, 6, 0);
        check.due("line(1,0,2)", x.line(1, 0, 2), 2);
        check.due("put(1,2,0)", x.put(1, 2, 0), 7);
        check.due("with its NAME", x.line(1, 1, 2), 0);
        check.due("with its TOKENS", x.line(1, 0, 1), 5);
        int[][] wrong = {{1, 7, 0}, {1, -1, 0}, {1, 0, 8}, {1, 0, -1}, {0, 0, 0}, {2, 0, 0}, {-1, 0, 0}};
        for (int[] w : wrong) {
            check.due("put " + w[0] + "," + w[1] + "," + w[2], x.put(w[0], w[1], w[2]), -1);
        }
        orders(x, 1, 1, 6, 0, 1, 1, 6, 0);
        for (int i = 8; i <= 16; i++) {
            check.due("put", x.put(1, 0, i - 1), i);
        }
        check.due("16 are there", x.put(1, 0, 0), -1);
        check.due("lines(1)", x.lines(1), 16);
    }

    private static void taking() {
        check.about("promise 31");
        MiceEngine x = Check.told("row w{set ka 1;out ka;skip;end;}trial;");
        check.due("take(0,4)", x.take(0, 4), -1);
        check.due("take(0,-1)", x.take(0, -1), -1);
        check.due("take(1,0)", x.take(1, 0), -1);
        check.due("take(-1,0)", x.take(-1, 0), -1);
        check.due("take(0,1)", x.take(0, 1), 3);
        orders(x, 0, 0, 10, 9);
        check.due("take(0,2)", x.take(0, 2), 2);
        check.due("take(0,0)", x.take(0, 0), 1);
        orders(x, 0, 10);
        check.due("take(0,0)", x.take(0, 0), 0);
        orders(x, 0);
        check.due("take(0,0)", x.take(0, 0), -1);
        check.due("put of none", x.put(0, 0, 0), -1);
    }

    private static void seeing() {
        check.about("promises 32, 33");
        MiceEngine x = Check.told("row v{out 1;}row w{out 1;skip;}trial;trial 1;");
        for (int i = 0; i < 20; i++) {
            check.due("see", x.see(1, i % 2, i % 4), i);
        }
        check.due("21st", x.see(1, 0, 0), -1);
        check.due("count(4)", x.count(4), 20);
        check.due("hold(0)", x.hold(0), true);
        check.due("forget()", x.forget(), 20);
        check.due("restore(0)", x.restore(0), true);
        check.due("count(4)", x.count(4), 20);
        check.due("suspects(1,1,20)", x.suspects(1, 1, 20), 0);
        check.due("suspects(1,1,21)", x.suspects(1, 1, 21), -1);
        check.due("forget()", x.forget(), 20);
        check.due("forget()", x.forget(), 0);
        check.due("count(4)", x.count(4), 0);
        int[][] wrong = {{2, 0, 0}, {-1, 0, 0}, {1, 2, 0}, {1, -1, 0}, {1, 0, 4}, {1, 0, -1}};
        for (int[] w : wrong) {
            check.due("see " + w[0] + "," + w[1] + "," + w[2], x.see(w[0], w[1], w[2]), -1);
        }
        check.due("see", x.see(0, 1, 1), 0);
        check.due("of another ROW", x.see(1, 1, 1), -1);
        check.due("count(4)", x.count(4), 1);
        check.due("a wrong put", x.put(0, 1, 0), -1);
        check.due("a wrong take", x.take(0, 1), -1);
        check.due("count(4)", x.count(4), 1);
        check.due("put", x.put(1, 0, 0), 3);
        check.due("all that is SEEN goes", x.count(4), 0);
        check.due("see", x.see(1, 1, 7), 0);
        check.due("take", x.take(0, 0), 0);
        check.due("all that is SEEN goes", x.count(4), 0);
        check.due("see all LINES lost", x.see(1, 0, 7), 0);
        Check.feed(x, "row");
        check.due("read()", x.read(), 1);
        check.due("a FAULT leaves it", x.count(4), 1);
        check.due("read()", x.read(), 0);
        check.due("a text does not", x.count(4), 0);
    }

    private static void slots() {
        check.about("promises 38, 39");
        MiceEngine x = new MiceEngine();
        check.due("hold(-1)", x.hold(-1), false);
        check.due("hold(3)", x.hold(3), false);
        check.due("restore(-1)", x.restore(-1), false);
        check.due("restore(3)", x.restore(3), false);
        check.due("restore(2)", x.restore(2), false);
        check.due("hold(2) of nothing told", x.hold(2), true);
        check.due("count(6)", x.count(6), 1);
        check.due("restore(2)", x.restore(2), true);
        Check.feed(x, "row v{skip;}row w{out 1;skip;}trial;fuel 9;");
        check.due("read()", x.read(), 0);
        check.due("count(6)", x.count(6), 0);
        check.due("restore(2)", x.restore(2), false);
        x.see(1, 0, 1);
        x.see(1, 0, 2);
        check.due("hold(0)", x.hold(0), true);
        x.put(0, 0, 0);
        x.take(1, 0);
        x.see(0, 0, 0);
        check.due("hold(1)", x.hold(1), true);
        check.due("count(6)", x.count(6), 2);
        x.forget();
        x.take(0, 0);
        check.due("restore(0)", x.restore(0), true);
        orders(x, 0, 10);
        orders(x, 1, 5, 10);
        check.due("count(4)", x.count(4), 2);
        check.due("of the ROW", x.see(0, 0, 0), -1);
        check.due("suspects(1,1,2)", x.suspects(1, 1, 2), 0);
        check.due("suspects(1,1,1)", x.suspects(1, 1, 1), 1);
        check.due("suspect(1,1,1,0)", x.suspect(1, 1, 1, 0), 1);
        check.due("restore(1)", x.restore(1), true);
        orders(x, 0, 10, 10);
        orders(x, 1, 10);
        check.due("count(4)", x.count(4), 1);
        x.take(0, 0);
        x.take(0, 0);
        check.due("that stays there", x.restore(1), true);
        orders(x, 0, 10, 10);
        check.due("hold(1)", x.hold(1), true);
        check.due("count(6)", x.count(6), 2);
        check.due("restore(2)", x.restore(2), false);
        check.due("count(3)", x.count(3), 9);
        check.due("count(1)", x.count(1), 1);
        x.feed(0, 0, 0, 0, 0);
        check.due("restore(0)", x.restore(0), true);
        check.due("the tape stays", x.count(5), 20);
    }

    private static void counts() {
        check.about("promise 40");
        MiceEngine x = Check.told("row v{}row w{}trial 1 2;trial gives 3;trial 1 2 3 4 5 6 gives 1 2 3 4 5 6 7 8;fuel 77;");
        x.hold(0);
        x.hold(1);
        x.see(0, 0, 0);
        x.feed(1, 2, 3, 4, 5);
        int[] due = {2, 3, 2, 77, 1, 20, 2, -1, -1, -1, 2, 0, 6, -1, -1, -1, -1, -1, -1, -1, -2, 1, 8, -1, -1};
        for (int what = 0; what < due.length; what++) {
            check.due("count(" + what + ")", x.count(what), due[what]);
        }
    }
}
