/** All limits at once: 2,000 bytes, 400 TOKENS, 4 ROWS of 16 LINES, 8 TRIALS of 6 and 8 numbers, FUEL 300, 120 SUSPECTS. */
public final class EdgesOfFullSizeTest {
    private static final Edges edges = new Edges();
    private static final Check check = edges.check;
    private static final String ROWS =
        "row a{add ka in;add kb 1;if ka<4 x;out ka;x:mul kb 2;skip;y:skip;add kc ka;skip;skip;end;out 9;skip;skip;skip;x:out 1;}"
        + "row b{call a;set ka in;if ka==kb y;call a;y:skip;skip;skip;set kd kb;set kd kb;out kd;skip;skip;skip;skip;skip;skip;}"
        + "row c{skip;call b;skip;if in<in z;call a;z:add kb 1;skip;skip;skip;skip;sub kd kd;skip;skip;skip;skip;out kb;}"
        + "row d{call c;skip;out kb;skip;skip;skip;skip;x:add ka 1;if ka<6 x;skip;skip;skip;skip;skip;skip;call a;}";
    private static final String TRIALS =
        "trial 1 2 3 4 5 6 gives 1 2 3 4 5 6 7 8;trial 5 2 1 0 0 9 gives 5 2 2 2 2 2 2 2;trial 0 0 0 0 0 0 gives 0 0 0 0 0 0 0 0;"
        + "trial 9 9 9 9 9 9 gives 9 9 9 9 9 9 9 9;trial 4 4 8 8 1 1 gives 4 4 4 4 4 4 4 4;trial 7 1 7 1 7 1 gives 7 7 7 7 7 7 7 7;"
        + "trial 3 3 2 2 1 1 gives 3 3 3 3 3 3 3 3;trial 2 4 6 8 6 4 gives 2 2 2 2 2 2 2 2;";
    // With these there are 400 TOKENS.
    private static final String FUELS = "fuel 1;".repeat(19) + "fuel 300;";
    private static final String BLANKS = " ".repeat(2000 - (ROWS + TRIALS + FUELS).length());
    private static final String FULL = ROWS + TRIALS + BLANKS + FUELS;
    // No two pairs of these LINES leave the same OUTPUT when they are lost.
    private static final String UNLIKE = "row q{out kb;out ka;}row w{add ka 1;add ka 2;add ka 4;add ka 8;add ka 16;add ka 32;add ka 64;"
        + "add ka 128;add ka 256;add ka 512;add ka 1024;add ka 2048;add ka 4096;add ka 8192;out ka;call q;}";

    public static void main(String[] args) {
        edges.sentence("2 ROOM: a 401st TOKEN; a 5th row, a 17th LINE of a ROW, a 9th trial (at its first TOKEN); a 7th N ahead of gives, "
            + "a 9th one behind it (at its first TOKEN).", EdgesOfFullSizeTest::fullText);
        edges.sentence("else it is in place of the one ahead: ROWS as told,", EdgesOfFullSizeTest::fullCalls);
        edges.sentence("SUSPECTS: sets of n LINES of the ROW that DO all that is SEEN.", EdgesOfFullSizeTest::unlikeSuspects);
        edges.sentence("NEXT: of all TRIALS that by which the greatest group of SUSPECTS that DO the same in it is least;",
            EdgesOfFullSizeTest::alikeSuspects);
        edges.sentence("SUSPECTS: sets of n LINES of the ROW that DO all that is SEEN.", EdgesOfFullSizeTest::eighthNumber);
        edges.sentence("told up to 4", EdgesOfFullSizeTest::eightTrials);
        check.end();
    }

    private static void fullText() {
        check.due("bytes", FULL.length(), 2000);
        MiceEngine x = Check.told(FULL);
        int[] due = {4, 8, 8, 300, 0, 0, 0};
        for (int what = 0; what < due.length; what++) {
            check.due("count(" + what + ")", x.count(what), due[what]);
        }
        for (int r = 0; r < 4; r++) {
            check.due("lines(" + r + ")", x.lines(r), 16);
        }
        for (int t = 0; t < 8; t++) {
            check.due("count(" + (10 + t) + ")", x.count(10 + t), 6);
            check.due("count(" + (20 + t) + ")", x.count(20 + t), 8);
        }
        // Each limit that is full is a FAULT with one more; without the blanks there is room for its bytes.
        String packed = ROWS + TRIALS + FUELS;
        check.fault(packed, 0, -1);
        check.fault(packed + "fuel 1;", 2, packed.length());
        check.fault(packed + "row", 2, packed.length());
        check.fault(packed + ";", 1, packed.length());
        check.fault(ROWS + TRIALS + "trial", 2, (ROWS + TRIALS).length());
        check.fault(ROWS + TRIALS + "row", 2, (ROWS + TRIALS).length());
        String open = ROWS.substring(0, ROWS.length() - 1);
        check.fault(open + "skip", 2, open.length());
        String last = TRIALS.substring(0, TRIALS.length() - 1);
        check.fault(ROWS + last + " 1", 2, (ROWS + last).length() + 1);
        String ahead = TRIALS.substring(0, TRIALS.lastIndexOf(" gives"));
        check.fault(ROWS + ahead + " 1", 2, (ROWS + ahead).length() + 1);
    }

    private static void fullCalls() {
        MiceEngine x = Check.told(FULL);
        Oracle o = new Oracle();
        o.tape.append(FULL);
        check.due("read()", o.read(), 0);
        for (int r = 3; r >= 0; r--) {
            losses(x, o, r);
            for (int n = 0; n <= 2; n++) {
                check.due("suspects(" + r + "," + n + ")", x.suspects(r, n, 0), o.suspects(r, n, 0));
                check.due("next(" + r + "," + n + ")", x.next(r, n, 0), o.next(r, n, 0));
                check.due("most(" + r + "," + n + ")", x.most(r, n, 0), o.most(r, n, 0));
            }
            check.due("sought(" + r + ",3,1)", x.sought(r, 3, 1), o.sought(r, 3, 1));
            check.due("sought(" + r + ",4,0)", x.sought(r, 4, 0), -3);
            check.due("put(" + r + ",0,0)", x.put(r, 0, 0), -1);
        }
        for (int i = 0; i < 20; i++) {
            check.due("see", x.see(3, i % 8, 1 << 15), o.see(3, i % 8, 1 << 15));
        }
        check.due("suspects by 20", x.suspects(3, 2, 20), o.suspects(3, 2, 20));
        check.due("most by 1", x.most(3, 2, 1), o.most(3, 2, 1));
    }

    private static void losses(MiceEngine x, Oracle o, int r) {
        for (int t = 0; t < 8; t++) {
            for (int lost : new int[] {0, 1, 32768, 65535}) {
                String of = "(" + r + "," + lost + "," + t + ")";
                check.due("run" + of, x.run(r, lost, t), o.run(r, lost, t));
                check.due("steps" + of, x.after(r, lost, t, 1), o.after(r, lost, t, 1));
                check.due("the last number" + of, x.out(r, lost, t, x.after(r, lost, t, 0) - 1),
                    o.out(r, lost, t, o.after(r, lost, t, 0) - 1));
            }
        }
        for (int i = 0; i < 16; i++) {
            check.due("differs(" + r + "," + (1 << i) + ")", x.differs(r, 1 << i), o.differs(r, 1 << i));
            check.due("harm(" + r + "," + i + ")", x.harm(r, i), o.harm(r, i));
        }
        for (int n = 0; n <= 3; n++) {
            check.due("breaks(" + r + "," + n + ")", x.breaks(r, n), o.breaks(r, n));
            check.due("life(" + r + "," + n + ",7)", x.life(r, n, 7), o.life(r, n, 7));
        }
        check.due("worst(" + r + ")", x.worst(r), o.worst(r));
        check.due("pair(" + r + ")", x.pair(r), o.pair(r));
        check.due("reached(" + r + ")", x.reached(r), o.reached(r));
        check.due("mends(" + r + ")", x.mends(r), -2);
        check.due("soonest(" + r + ")", x.soonest(r), -2);
    }

    private static void unlikeSuspects() {
        MiceEngine x = Check.told(UNLIKE + "trial;".repeat(8));
        check.due("120", x.suspects(1, 2, 0), 120);
        check.due("any TRIAL tells them", x.next(1, 2, 0), 0);
        check.due("one TRIAL", x.most(1, 2, 0), 1);
        int[] pairs = {3, 5, 1 << 13 | 1, 1 << 14 | 1 << 13, 1 << 15 | 1, 1 << 15 | 1 << 13, 1 << 15 | 1 << 14};
        for (int pair : pairs) {
            for (int t = 0; t < 8; t += 7) {
                check.due("see", x.see(1, t, pair), 0);
                check.due("one of 120", x.suspects(1, 2, 1), 1);
                check.due("suspect", x.suspect(1, 2, 1, 0), pair);
                check.due("none behind it", x.suspect(1, 2, 1, 1), -1);
                check.due("most by it", x.most(1, 2, 1), 0);
                check.due("none of one LINE", x.suspects(1, 1, 1), 0);
                x.forget();
            }
        }
        // Three lost do what no two do.
        check.due("see", x.see(1, 7, 7), 0);
        check.due("none of 120", x.suspects(1, 2, 1), 0);
        check.due("next without SUSPECTS", x.next(1, 2, 1), -2);
        check.due("most without SUSPECTS", x.most(1, 2, 1), 0);
        check.due("the 120th by 0", x.suspect(1, 2, 0, 119), 49152);
    }

    private static void alikeSuspects() {
        MiceEngine x = Check.told("row w{" + "skip;".repeat(16) + "}" + "trial;".repeat(8));
        check.due("120", x.suspects(0, 2, 0), 120);
        check.due("the first TRIAL, of 120 in one group", x.next(0, 2, 0), 0);
        check.due("no TRIAL", x.most(0, 2, 0), 0);
        check.due("see", x.see(0, 7, 0), 0);
        check.due("120 still", x.suspects(0, 2, 1), 120);
        check.due("the first TRIAL still", x.next(0, 2, 1), 0);
        // The 8th TRIAL alone tells set and out from the others: 14 is less than 16.
        x = Check.told("row w{set ka in;if ka==0 x;if ka==0 x;out 1;x:end;x:end;" + "skip;".repeat(10) + "}" + "trial;".repeat(7)
            + "trial 1;");
        check.due("the last of 8", x.next(0, 1, 0), 7);
        check.due("one TRIAL", x.most(0, 1, 0), 1);
    }

    /** The 8th number is what tells, in each TRIAL, also when all TRIALS were looked at ahead. */
    private static void eighthNumber() {
        String row = "row w{add ka 1;add ka 2;add ka 4;set kb in;" + "out kb;".repeat(7) + "out ka;}";
        String trials = "trial 3;trial 2;trial 1;trial 0;trial 3;trial 2;trial 1;trial 0;";
        for (int lost : new int[] {1, 2, 4}) {
            for (int t = 0; t < 8; t++) {
                MiceEngine x = Check.told(row + trials);
                check.due("next", x.next(0, 1, 0), 0);
                check.due("see", x.see(0, t, lost), 0);
                check.due("suspects", x.suspects(0, 1, 1), 1);
                check.due("suspect", x.suspect(0, 1, 1, 0), lost);
                check.due("same", x.same(0, lost), 0);
                check.due("does", x.does(0, lost), 1);
            }
        }
        MiceEngine x = Check.told(row + "trial 3 gives 3 3 3 3 3 3 3 7;");
        check.due("the 8th given", x.does(0, 0), 1);
        for (int lost = 1; lost < 8; lost++) {
            check.due("another 8th", x.does(0, lost), 0);
            check.due("differs", x.differs(0, lost), 0);
        }
    }

    /** Each TRIAL tells one LINE from the others, so of eight LINES that are told seven must be asked; fewer when more is KNOWN. */
    private static void eightTrials() {
        StringBuilder text = new StringBuilder("row w{set ka in;");
        for (int i = 1; i <= 8; i++) {
            text.append("if ka==").append(i).append(" x;");
        }
        text.append("set kb 1;set kb 2;x:out kb;}");
        for (int i = 1; i <= 8; i++) {
            text.append("trial ").append(i).append(';');
        }
        MiceEngine x = Check.told(text.toString());
        Oracle o = new Oracle();
        o.tape.append(text);
        o.read();
        for (int t = 0; t < 8; t++) {
            for (int n = 0; n <= 2; n++) {
                check.due("most(0," + n + "," + t + ")", x.most(0, n, t), o.most(0, n, t));
                check.due("next(0," + n + "," + t + ")", x.next(0, n, t), o.next(0, n, t));
            }
            check.due("see", x.see(0, 7 - t, 512), o.see(0, 7 - t, 512));
        }
        check.due("all KNOWN", x.most(0, 1, 8), 0);
        check.due("none is KNOWN", x.most(0, 1, 0), -2);
        // No TRIAL but the 8 that are told.
        ofEight("if ka==6 x;if ka<5 x;if ka==2 x;if ka!=5 y;", new int[] {1, 5, 4, 3, 1, 8, 5, 2}, 1, 3);
        ofEight("if ka==3 y;if ka<=4 y;if ka==2 x;if ka==6 x;if ka==5 x;if ka<2 x;if ka<7 x;if ka<=5 y;if ka==4 x;",
            new int[] {4, 7, 8, 1, 6, 6, 3, 7}, 2, 4);
        ofEight("if ka==6 x;if ka==4 x;if ka<=1 x;if ka==0 y;if ka<4 y;if ka==3 x;if ka<0 y;if ka<=0 y;if ka==1 x;if ka==1 y;if ka<=4 x;",
            new int[] {5, 3, 2, 4, 1, 6, 3, 5}, 2, -2);
        ofEight("if ka==2 y;if ka!=4 x;if ka==1 x;if ka<=7 x;if ka<1 x;if ka==7 y;if ka==1 x;if ka!=4 x;if ka==0 y;if ka!=7 x;if ka<=5 y;"
            + "if ka!=2 x;", new int[] {4, 1, 7, 1, 7, 7, 3, 7}, 2, 2);
    }

    private static void ofEight(String tests, int[] trials, int n, int due) {
        StringBuilder text = new StringBuilder("row w{set ka in;" + tests + "out 0;x:out 1;y:out 2;}");
        for (int t : trials) {
            text.append("trial ").append(t).append(';');
        }
        Oracle o = new Oracle();
        o.tape.append(text);
        o.read();
        check.due("most of " + text, Check.told(text.toString()).most(0, n, 0), due);
        check.due("the plain reading", o.most(0, n, 0), due);
    }
}
