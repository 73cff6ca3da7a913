/** Promises 1 to 7: the tape, texts and their FAULTS, LINES. */
public final class TapeAndTextTest {
    private static final Check check = new Check();

    public static void main(String[] args) {
        newObject();
        tape();
        goodTexts();
        syntax();
        room();
        roomEverywhere();
        laterFaults();
        whichFault();
        faultsChangeNothing();
        lines();
        check.end();
    }

    private static void newObject() {
        check.about("promise 1");
        MiceEngine x = new MiceEngine();
        int[] due = {0, 0, 0, 100, 0, 0, 0, -1, -1, -1, -1, -1};
        for (int what = 0; what < due.length; what++) {
            check.due("count(" + what + ")", x.count(what), due[what]);
        }
        check.due("count(-1)", x.count(-1), -1);
        check.due("count(20)", x.count(20), -1);
        check.due("place()", x.place(), -1);
        check.due("lines(0)", x.lines(0), -1);
    }

    private static void tape() {
        check.about("promises 2, 3");
        MiceEngine x = new MiceEngine();
        check.due("back(0)", x.back(0), 0);
        check.due("back(1)", x.back(1), -1);
        check.due("back(-1)", x.back(-1), -1);
        for (int i = 1; i <= 100; i++) {
            check.due("feed", x.feed(-1, 0, 1, 2, 3), 20 * i);
        }
        check.due("101st feed", x.feed(0, 0, 0, 0, 0), -1);
        check.due("count(5)", x.count(5), 2000);
        check.due("back(1)", x.back(1), 1999);
        check.due("feed", x.feed(0, 0, 0, 0, 0), -1);
        check.due("back(19)", x.back(19), 1980);
        check.due("feed", x.feed(0, 0, 0, 0, 0), 2000);
        check.due("back(2001)", x.back(2001), -1);
        check.due("back(min)", x.back(-2147483648), -1);
        check.due("back(max)", x.back(2147483647), -1);
        check.due("read()", x.read(), 1);
        check.due("place()", x.place(), 0);
        check.due("count(5)", x.count(5), 0);
        check.due("read()", x.read(), 0);
        check.due("place()", x.place(), -1);
        for (String text : new String[] {"row w{if ka<=", "row abc", "fuel 12", "fuel 1;"}) {
            Check.feed(x, text);
            check.due("back(1)", x.back(1), text.length() - 1);
            check.due("what went back is not read", x.read(), 1);
            check.due("place()", x.place(), text.length() - 1);
        }
        Check.feed(x, "row w{}x");
        check.due("back(1)", x.back(1), 7);
        check.due("read()", x.read(), 0);
        check.due("count(0)", x.count(0), 1);
    }

    private static void goodTexts() {
        check.about("promise 4");
        check.fault("", 0, -1);
        check.fault(" \t\n\r ", 0, -1);
        check.fault("row w{}row a{}trial;trial gives;fuel 1;", 0, -1);
        check.fault("row\tabcdefgh\n{\rx:set ka-5;add kb 0009;sub kc in;mul kd ka;div ka 9999;out-1;go x;"
            + "if in==ka x;if 1!=2x;if ka<kb x;if-1<=-2x;end;skip;}row z{call abcdefgh;}", 0, -1);
        check.fault("row rows { orders: skip; go orders; }", 0, -1);
        check.fault("row a { a: go a; } row b { a: call a; go a; }", 0, -1);
        check.fault("trial 1-2 3-4 5-6 gives 1 2 3 4 5 6 7-8;", 0, -1);
        check.fault("fuel 300; fuel 0001;", 0, -1);
        MiceEngine x = Check.told("fuel 30; fuel 0200; trial - 12 0; trial gives; trial 1 gives 2 -3;");
        check.due("count(3)", x.count(3), 200);
        check.due("count(1)", x.count(1), 3);
        check.due("count(2)", x.count(2), 2);
        int[] due = {2, 0, 1, -1, -1, -1, -1, -1, -1, -1, -2, 0, 2, -1};
        for (int i = 0; i < due.length; i++) {
            check.due("count(" + (10 + i) + ")", x.count(10 + i), due[i]);
        }
        x = Check.told(eightTrials());
        check.due("count(17)", x.count(17), 0);
        check.due("count(18)", x.count(18), -1);
        check.due("count(19)", x.count(19), -1);
        check.due("count(27)", x.count(27), -2);
        check.due("count(28)", x.count(28), -1);
        check.due("count(30)", x.count(30), -1);
        check.due("count(min)", x.count(-2147483648), -1);
        check.due("count(max)", x.count(2147483647), -1);
    }

    private static String eightTrials() {
        return "trial;".repeat(8);
    }

    private static void syntax() {
        check.about("promises 4, 5: SYNTAX");
        check.fault("x", 1, 0);
        check.fault("  row", 1, 5);
        check.fault("row  ", 1, 5);
        check.fault("row w", 1, 5);
        check.fault("row w {", 1, 7);
        check.fault("row row {}", 1, 4);
        check.fault("row in {}", 1, 4);
        check.fault("row 5 {}", 1, 4);
        check.fault("row abcdefghi {}", 1, 4);
        check.fault("row w { skip }", 1, 13);
        check.fault("row w { skip;; }", 1, 13);
        check.fault("row w { : skip; }", 1, 8);
        check.fault("row w { a skip; }", 1, 10);
        check.fault("row w { a: b: skip; }", 1, 11);
        check.fault("row w { set in 1; }", 1, 12);
        check.fault("row w { set x 1; }", 1, 12);
        check.fault("row w { set ka x; }", 1, 15);
        check.fault("row w { set ka 12345; }", 1, 15);
        check.fault("row w { set ka - - 1; }", 1, 17);
        check.fault("row w { set ka - kb; }", 1, 17);
        check.fault("row w { out; }", 1, 11);
        check.fault("row w { go end; }", 1, 11);
        check.fault("row w { if ka = kb x; x: end; }", 1, 14);
        check.fault("row w { if ka ! kb x; x: end; }", 1, 14);
        check.fault("row w { if ka === kb x; x: end; }", 1, 16);
        check.fault("row w { if ka < = kb x; x: end; }", 1, 16);
        check.fault("row w { if ka > kb x; x: end; }", 1, 14);
        check.fault("row w { if ka kb x; x: end; }", 1, 14);
        check.fault("row w { if ka < x; x: end; }", 1, 16);
        check.fault("row w { call 1; }", 1, 13);
        check.fault("row w { end x; }", 1, 12);
        check.fault("row W { }", 1, 4);
        check.fault("row w { } }", 1, 10);
        check.fault("trial 1 gives 2 gives 3;", 1, 16);
        check.fault("trial -;", 1, 7);
        check.fault("trial ka;", 1, 6);
        check.fault("fuel;", 1, 4);
        check.fault("fuel -1;", 1, 5);
        check.fault("fuel 1 2;", 1, 7);
        check.fault("row w {" + (char) 0 + "}", 1, 7);
        check.fault("row w {" + (char) 12 + "}", 1, 7);
        check.fault("row w {" + (char) 255 + "}", 1, 7);
        check.fault("row w {" + (char) ('a' + 256 - 128) + "}", 1, 7);
        check.fault("rowx { }", 1, 0);
    }

    private static void room() {
        check.about("promises 4, 5: ROOM");
        check.fault("row a{}row b{}row c{}row d{}", 0, -1);
        check.fault("row a{}row b{}row c{}row d{}row e{}", 2, 28);
        check.fault("row a{}row b{}row c{}row d{}row", 2, 28);
        check.fault("row a{" + "skip;".repeat(16) + "}", 0, -1);
        check.fault("row a{" + "skip;".repeat(17) + "}", 2, 86);
        check.fault("row a{" + "skip;".repeat(16) + "x y", 2, 86);
        check.fault("row a{" + "skip;".repeat(16) + "; y", 1, 86);
        check.fault("row a{" + "skip;".repeat(16), 1, 86);
        check.fault(eightTrials(), 0, -1);
        check.fault(eightTrials() + " trial", 2, 49);
        check.fault("trial 1 2 3 4 5 6;", 0, -1);
        check.fault("trial 1 2 3 4 5 6 7;", 2, 18);
        check.fault("trial 1 2 3 4 5 6 -;", 2, 18);
        check.fault("trial gives 1 2 3 4 5 6 7 8;", 0, -1);
        check.fault("trial gives 1 2 3 4 5 6 7 8 -9;", 2, 28);
        check.fault("trial gives 1 2 3 4 5 6 7 8 9;", 2, 28);
        // 133 tells of 3 TOKENS are 399 TOKENS.
        String many = "fuel 1;".repeat(133);
        check.fault(many, 0, -1);
        check.fault(many + "fuel", 1, 935);
        check.fault(many + "fuel 2", 2, 936);
        check.fault(many + "fuel x", 1, 936);
        check.fault(many + "fuel 12345", 1, 936);
        check.fault(many + "fuel =", 1, 936);
        check.fault(many + "trial;", 2, 936);
        check.fault("trial;" + "trial;" + many.substring(0, 132 * 7), 0, -1);
        check.fault("trial;" + "trial;" + many.substring(0, 132 * 7) + "row", 2, 936);
        check.fault("trial;" + "trial;" + many.substring(0, 132 * 7) + ";", 1, 936);
        check.fault("trial;" + "trial;" + many.substring(0, 132 * 7) + "  ", 0, -1);
    }

    /** Each TOKEN of a text that has all kinds of them is made the 401st, and so is a wrong one in its place. */
    private static void roomEverywhere() {
        check.about("promises 4, 5: a 401st TOKEN");
        String[] text = ("row p { x : set ka - 5 ; add kb in ; out kc ; go x ; if - 1 <= kd x ; if in == in x ; end ; "
            + "skip ; } row q { call p ; } trial 1 - 2 gives 3 - 4 ; fuel 9 ; trial ; row r { }").split(" ");
        for (int i = 0; i < text.length; i++) {
            StringBuilder ahead = new StringBuilder();
            int tokens = 400 - i;
            for (; tokens % 3 != 0; tokens -= 2) {
                ahead.append("trial;");
            }
            ahead.append("fuel 1;".repeat(tokens / 3));
            for (int j = 0; j < i; j++) {
                ahead.append(text[j]).append(' ');
            }
            String behind = String.join(" ", java.util.Arrays.asList(text).subList(i + 1, text.length));
            check.fault(ahead + text[i] + ' ' + behind, 2, ahead.length());
            check.fault(ahead + text[i], 2, ahead.length());
            check.fault(ahead + "= " + behind, 1, ahead.length());
            check.fault(ahead + "gives", text[i].equals("gives") ? 2 : isEndOfIn(text, i) ? 2 : 1, ahead.length());
            boolean mayEnd = i == 0 || text[i].equals("row") || text[i].equals("fuel") || text[i].equals("trial");
            check.fault(ahead.toString(), mayEnd ? 0 : 1, mayEnd ? -1 : ahead.length());
        }
        String fits = String.join(" ", text);
        check.fault(fits, 0, -1);
    }

    /** Behind trial and its numbers gives may come. */
    private static boolean isEndOfIn(String[] text, int i) {
        int at = i;
        while (at > 0 && text[at - 1].matches("[0-9]+|-")) {
            at--;
        }
        return at > 0 && text[at - 1].equals("trial") && !text[i - 1].equals("-");
    }

    private static void laterFaults() {
        check.about("promises 4, 5: TWICE, NAME, WRONG");
        check.fault("row a{}row a{}", 3, 11);
        check.fault("row a{}row b{}row a{skip;}", 3, 18);
        check.fault("row a{go x;}", 4, 9);
        check.fault("row a{go x;y:skip;}", 4, 9);
        check.fault("row a{go x;x:skip;}", 0, -1);
        check.fault("row a{x:skip;}row b{go x;}", 4, 23);
        check.fault("row a{if ka<1 x;}", 4, 14);
        check.fault("row a{call a;}", 4, 11);
        check.fault("row a{call b;}row b{}", 4, 11);
        check.fault("row a{a:call a;}", 4, 13);
        check.fault("row a{x:skip;}row b{call x;}", 4, 25);
        check.fault("row a{}row b{call a;}row c{call b;call a;}", 0, -1);
        check.fault("fuel 0;", 5, 5);
        check.fault("fuel 0000;", 5, 5);
        check.fault("fuel 301;", 5, 5);
        check.fault("fuel 9999;fuel 5;", 5, 5);
        check.fault("fuel 5; fuel 301;", 5, 13);
    }

    private static void whichFault() {
        check.about("promises 4, 5: the first FAULT");
        check.fault("fuel 0;row a{}row a{go x;", 1, 25);
        check.fault("row a{go x;}" + eightTrials() + "trial", 2, 60);
        check.fault("fuel 0;row a{go x;}row a{}", 5, 5);
        check.fault("row a{go x;}fuel 0;row a{}", 4, 9);
        check.fault("row a{}row a{go x;}fuel 0;", 3, 11);
        check.fault("row a{go x;call b;}", 4, 9);
        check.fault("row a{call b;go x;}", 4, 11);
        check.fault("row a{x:go y;call q;}", 4, 11);
        check.fault("row a{}row b{}row c{}row d{skip}row e{}", 1, 31);
        check.fault("row a{}row b{}row c{}row d{}row e{skip}", 2, 28);
    }

    private static void faultsChangeNothing() {
        check.about("promise 4: a FAULT changes nothing but the tape");
        MiceEngine x = Check.told("row a{skip;out 1;}trial 5;fuel 7;");
        x.see(0, 0, 1);
        x.hold(1);
        Check.feed(x, "row b{}row c{} trial gives; fuel 3; fuel 0;");
        check.due("read()", x.read(), 5);
        check.due("count(0)", x.count(0), 1);
        check.due("count(1)", x.count(1), 1);
        check.due("count(2)", x.count(2), 0);
        check.due("count(3)", x.count(3), 7);
        check.due("count(4)", x.count(4), 1);
        check.due("count(5)", x.count(5), 0);
        check.due("count(6)", x.count(6), 1);
        check.due("lines(0)", x.lines(0), 2);
        check.due("out(0,0,0,0)", x.out(0, 0, 0, 0), 1);
        check.due("place()", x.place(), 41);
        check.due("read()", x.read(), 0);
        check.due("place()", x.place(), -1);
        check.due("count(0)", x.count(0), 0);
        check.due("count(3)", x.count(3), 100);
        check.due("count(4)", x.count(4), 0);
        check.due("count(6)", x.count(6), 0);
        check.due("restore(1)", x.restore(1), false);
    }

    private static void lines() {
        check.about("promises 6, 7");
        MiceEngine x = Check.told("row e{} row w{set ka 1;add ka-1;sub ka in;mul kb kc;x:div kd - 3;out in;go x;"
            + "x:if in<= -4 y;y:call e;end;y:skip;}");
        check.due("lines(0)", x.lines(0), 0);
        check.due("lines(1)", x.lines(1), 11);
        check.due("lines(2)", x.lines(2), -1);
        check.due("lines(-1)", x.lines(-1), -1);
        int[] tokens = {3, 4, 3, 3, 6, 2, 2, 8, 4, 1, 3};
        for (int i = 0; i < 11; i++) {
            check.due("line(1," + i + ",0)", x.line(1, i, 0), i);
            check.due("line(1," + i + ",1)", x.line(1, i, 1), tokens[i]);
            check.due("line(1," + i + ",2)", x.line(1, i, 2), i == 6 ? 4 : i == 7 ? 8 : -1);
            check.due("line(1," + i + ",3)", x.line(1, i, 3), -1);
            check.due("line(1," + i + ",-1)", x.line(1, i, -1), -1);
        }
        check.due("line(1,11,0)", x.line(1, 11, 0), -1);
        check.due("line(1,-1,0)", x.line(1, -1, 0), -1);
        check.due("line(0,0,0)", x.line(0, 0, 0), -1);
        check.due("line(2,0,0)", x.line(2, 0, 0), -1);
        check.due("line(-1,0,0)", x.line(-1, 0, 0), -1);
        x.take(1, 4);
        check.due("line(1,5,2) without the first x", x.line(1, 5, 2), 6);
        x.take(1, 6);
        check.due("line(1,5,2) without x", x.line(1, 5, 2), -2);
        x.put(1, 5, 0);
        check.due("line(1,0,2)", x.line(1, 0, 2), -2);
    }
}
