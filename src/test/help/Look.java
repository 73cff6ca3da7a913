/** All that can be told of an object: what it is now, what its SLOTS hold, what its tape reads. It ends the object's use. */
final class Look {
    private final MiceEngine x;
    private final StringBuilder told = new StringBuilder();

    private Look(MiceEngine x) {
        this.x = x;
    }

    static String at(MiceEngine x) {
        Look look = new Look(x);
        look.now("now");
        for (int slot = 0; slot < 3; slot++) {
            look.tell("restore " + slot, x.restore(slot) ? 1 : 0);
            look.now("slot " + slot);
        }
        look.tell("read", x.read());
        look.now("text");
        return look.told.toString();
    }

    private void tell(String what, long answer) {
        told.append(what).append(' ').append(answer).append('\n');
    }

    private void now(String when) {
        tell(when + ": place", x.place());
        for (int what = 0; what < 7; what++) {
            tell(when + ": count " + what, x.count(what));
        }
        for (int t = 0; t < x.count(1); t++) {
            tell(when + ": numbers of " + t, x.count(10 + t));
            tell(when + ": gives of " + t, x.count(20 + t));
        }
        for (int r = 0; r < x.count(0); r++) {
            row(when + ": row " + r, r);
        }
    }

    private void row(String of, int r) {
        tell(of + " lines", x.lines(r));
        for (int i = 0; i < x.lines(r); i++) {
            tell(of + " order of " + i, x.line(r, i, 0));
            tell(of + " tokens of " + i, x.line(r, i, 1));
        }
        tell(of + " out", x.out(r, 0, 0, 0));
        tell(of + " steps", x.after(r, 0, 0, 1));
        for (int k = 0; k <= x.count(4); k += 1 + k) {
            tell(of + " suspects by " + k, x.suspects(r, 1, k));
            tell(of + " first of them", x.suspect(r, 1, k, 0));
        }
        tell(of + " suspects by all", x.suspects(r, 1, x.count(4)));
    }
}
