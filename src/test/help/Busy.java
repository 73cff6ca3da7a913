/** Objects in which everything is in use, so that a call that should change nothing has much to spoil. */
final class Busy {
    private Busy() {
    }

    /** Three ROWS, three TRIALS, two of the TABLE, a FAULT at 3, two SEEN of ROW 1, SLOTS 0 and 2 in use, a text on the tape. */
    static MiceEngine made() {
        MiceEngine x = Check.told("row u{out 3;x:skip;}row w{set ka in;x:out ka;if ka<0 x;call u;}row e{}"
            + "trial 1;trial 2 5 gives 2 3;trial gives 0 3;fuel 60;");
        x.see(0, 1, 2);
        x.hold(2);
        x.put(1, 1, 4);
        x.hold(0);
        x.take(0, 1);
        Check.feed(x, "row");
        x.read();
        x.see(1, 0, 1);
        x.see(1, 2, 8);
        Check.feed(x, "row z{out 9;out in;}trial 4;");
        return x;
    }

    /** As many bytes on the tape as told, the last of them the text's end. */
    static MiceEngine withTape(int bytes) {
        MiceEngine x = Check.told("row w{out 1;}trial;");
        Check.feed(x, " ".repeat(bytes - 7) + "fuel 9;");
        return x;
    }

    /** 20 SEEN of ROW 0. */
    static MiceEngine withSeen(int many) {
        MiceEngine x = Check.told("row w{out 1;skip;}row v{out 2;}trial;trial 1;");
        for (int i = 0; i < many; i++) {
            x.see(0, i % 2, 1);
        }
        return x;
    }

    /** ROW 0 with so many LINES, one SEEN. */
    static MiceEngine withLines(int many) {
        MiceEngine x = Check.told("row w{" + "skip;".repeat(many) + "}row v{out 2;}trial;");
        x.see(0, 0, 0);
        return x;
    }
}
