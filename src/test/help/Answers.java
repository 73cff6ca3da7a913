/** All that the questions of a small object answer, as one text; asking must change nothing, and nothing asked may stay. */
final class Answers {
    private final MiceEngine x;
    private final StringBuilder told = new StringBuilder();

    private Answers(MiceEngine x) {
        this.x = x;
    }

    static String of(MiceEngine x) {
        Answers a = new Answers(x);
        for (int what = 0; what < 30; what++) {
            a.tell("count", x.count(what));
        }
        for (int r = 0; r < x.count(0); r++) {
            a.runs(r);
            a.losses(r);
            a.orders(r);
            a.table(r);
            a.suspicion(r);
        }
        return a.told.toString();
    }

    private void tell(String what, long answer) {
        told.append(what).append(' ').append(answer).append('\n');
    }

    private void runs(int r) {
        tell("lines of " + r, x.lines(r));
        for (int i = 0; i < x.lines(r); i++) {
            tell("order", x.line(r, i, 0));
            tell("tokens", x.line(r, i, 1));
            tell("leads", x.line(r, i, 2));
        }
        for (int t = 0; t < x.count(1); t++) {
            tell("run", x.run(r, 0, t));
            tell("numbers", x.after(r, 0, t, 0));
            tell("steps", x.after(r, 0, t, 1));
            tell("out", x.out(r, 0, t, 0));
            tell("step", x.step(r, 0, t, 1));
            tell("kb", x.after(r, 1, t, 3));
        }
    }

    private void losses(int r) {
        tell("same", x.same(r, 1));
        tell("differs", x.differs(r, 1));
        for (int n = 0; n <= 3; n++) {
            tell("bears", x.bears(r, n));
            tell("breaks", x.breaks(r, n));
            tell("life", x.life(r, n, 5));
        }
        tell("idle", x.idle(r));
        tell("harm", x.harm(r, 0));
        tell("worst", x.worst(r));
        tell("pair", x.pair(r));
        tell("mends", x.mends(r));
        tell("reached", x.reached(r));
    }

    private void orders(int r) {
        tell("soonest", x.soonest(r));
        for (int k = 0; k <= x.lines(r); k++) {
            tell("ways", x.ways(r, k));
        }
        tell("above", x.mean(r, false));
        tell("below", x.mean(r, true));
        tell("core", x.core(r, 0));
        tell("core", x.core(r, 1));
    }

    private void table(int r) {
        tell("does", x.does(r, 0));
        tell("does", x.does(r, 1));
        tell("sought", x.sought(r, 2, 1));
        for (int n = 0; n <= 3; n += 3) {
            tell("sought", x.sought(r, n, 0));
            tell("soughtAt", x.soughtAt(r, n, 0, 0));
            tell("soughtAt", x.soughtAt(r, n, 0, 1));
        }
    }

    private void suspicion(int r) {
        for (int n = 0; n <= 2; n++) {
            tell("suspects", x.suspects(r, n, 0));
            tell("next", x.next(r, n, 0));
            tell("most", x.most(r, n, 0));
        }
        int k = x.count(4);
        tell("suspects by all", x.suspects(r, 1, k));
        tell("the first of them", x.suspect(r, 1, k, 0));
        tell("the last of them", x.suspect(r, 1, k, x.suspects(r, 1, k) - 1));
        tell("next by all", x.next(r, 1, k));
        tell("most by all", x.most(r, 1, k));
    }
}
