import java.util.ArrayList;
import java.util.Arrays;
import java.util.List;

/** The boundaries of FAULTS: which, where, and what a text with one leaves as it was. */
public final class EdgesOfFaultsTest {
    private static final Edges edges = new Edges();
    private static final Check check = edges.check;
    // 399 TOKENS in 931 bytes.
    private static final String MANY = "fuel 1;".repeat(133);
    private static final int MANY_BYTES = 931;

    public static void main(String[] args) {
        edges.sentence("FAULTS of a text, the first by its place (a byte; the text's end: its length), of one place the least:",
            EdgesOfFaultsTest::firstByPlace);
        edges.sentence("(a byte; the text's end: its length)", EdgesOfFaultsTest::textsEnd);
        edges.sentence("of one place the least", EdgesOfFaultsTest::leastOfOnePlace);
        edges.sentence("1 SYNTAX: a TOKEN, or what is none, with which no text goes on.", EdgesOfFaultsTest::syntax);
        edges.sentence("a 401st TOKEN;", EdgesOfFaultsTest::token401);
        edges.sentence("a 5th row,", EdgesOfFaultsTest::fifthRow);
        edges.sentence("a 17th LINE of a ROW,", EdgesOfFaultsTest::line17);
        edges.sentence("a 9th trial (at its first TOKEN);", EdgesOfFaultsTest::ninthTrial);
        edges.sentence("a 7th N ahead of gives,", EdgesOfFaultsTest::seventhNumber);
        edges.sentence("a 9th one behind it (at its first TOKEN).", EdgesOfFaultsTest::ninthGiven);
        edges.sentence("If there is none, likewise:", EdgesOfFaultsTest::laterOnes);
        edges.sentence("3 TWICE: a ROW's NAME told already.", EdgesOfFaultsTest::twice);
        edges.sentence("4 NAME: go, if: no LINE of the ROW has it, wherever it stands;", EdgesOfFaultsTest::jumpNames);
        edges.sentence("call: no ROW told ahead (a ROW is not told ahead in itself).", EdgesOfFaultsTest::callNames);
        edges.sentence("5 WRONG (at the INT): FUEL 0 or above 300.", EdgesOfFaultsTest::wrongFuel);
        edges.sentence("A text with a FAULT changes nothing but the tape;", EdgesOfFaultsTest::changesNothing);
        edges.sentence("else it is in place of the one ahead: ROWS as told, nothing is SEEN, SLOTS hold nothing.",
            EdgesOfFaultsTest::inPlace);
        check.end();
    }

    private static void good(String text) {
        check.fault(text, 0, -1);
    }

    private static void firstByPlace() {
        check.fault("= row w{", 1, 0);
        check.fault("row w{skip}row v{end}", 1, 10);
        check.fault("trial 1 2 3 4 5 6 7 =", 2, 18);
        check.fault("trial 1 2 3 4 5 = 6 7", 1, 16);
        check.fault("row w{" + "skip;".repeat(17) + "=", 2, 86);
        check.fault("row w{=" + "skip;".repeat(17), 1, 6);
        check.fault("fuel 0;row a{go x;call y;}row a{}", 5, 5);
        check.fault("row a{go x;call y;}row a{}fuel 0;", 4, 9);
        check.fault("row a{call y;go x;}row a{}fuel 0;", 4, 11);
        check.fault("row a{}row a{go x;call y;}fuel 0;", 3, 11);
        check.fault("row a{x:skip;go x;if 1<1 y;go z;}", 4, 25);
    }

    private static void textsEnd() {
        check.fault("row", 1, 3);
        check.fault("row ", 1, 4);
        check.fault("row w{\n\n", 1, 8);
        check.fault("trial 1", 1, 7);
        check.fault("fuel", 1, 4);
        check.fault("  row w{if in<", 1, 14);
    }

    private static void leastOfOnePlace() {
        // A 401st TOKEN with which no text goes on is both.
        check.fault(MANY + "fuel ;", 1, MANY_BYTES + 5);
        check.fault(MANY + "fuel 1;", 2, MANY_BYTES + 5);
        // A 17th LINE, a 5th row, a 9th trial that is the 401st TOKEN too is ROOM all the same.
        check.fault(with400("row w{" + "skip;".repeat(16)) + "skip", 2, with400("row w{" + "skip;".repeat(16)).length());
        check.fault(with400("row a{}row b{}row c{}row d{}") + "row", 2, with400("row a{}row b{}row c{}row d{}").length());
        // Behind 16 LINES, what begins none is SYNTAX.
        check.fault("row w{" + "skip;".repeat(16) + ";", 1, 86);
        check.fault("row w{" + "skip;".repeat(16) + "row", 1, 86);
        check.fault("row w{" + "skip;".repeat(16) + "ka", 1, 86);
        check.fault("trial 1 2 3 4 5 6 ka;", 1, 18);
        check.fault("trial 1 2 3 4 5 6 12345;", 1, 18);
        check.fault("trial gives 1 2 3 4 5 6 7 8 x;", 1, 28);
        check.fault("trial;".repeat(8) + "trials", 1, 48);
    }

    /** A text that begins with TELLS, so that there are 400 TOKENS in all. */
    private static String with400(String end) {
        int tokens = 0;
        for (String part : end.split("(?<=[;{}])|(?=[;{}])| ")) {
            tokens += part.isBlank() ? 0 : 1;
        }
        StringBuilder text = new StringBuilder();
        int left = 400 - tokens;
        for (; left % 3 != 0; left -= 2) {
            text.append("trial;");
        }
        return text.append("fuel 1;".repeat(left / 3)).append(end).toString();
    }

    /** Each TOKEN of a text that has them all is cut off, taken out, and replaced by each other one. */
    private static void syntax() {
        String[] text = ("row p { x : set ka - 5 ; add kb in ; sub kc ka ; mul kd 1 ; div ka 2 ; out kc ; out in ; go x ; "
            + "if - 1 <= kd x ; if in == in x ; if ka != 3 x ; if 1 < kb x ; end ; skip ; } row q { call p ; y : go y ; } "
            + "trial 1 - 2 gives 3 - 4 ; fuel 9 ; trial ; trial gives ; row r { }").split(" ");
        List<String> others = new ArrayList<>(Arrays.asList(("row trial gives fuel set add sub mul div out go if call end "
            + "skip ka kb kc kd in x p q nobody ; : { } == != < <= - 0 1 300 9999 12345 abcdefghi = ! . A").split(" ")));
        for (int i = 0; i < text.length; i++) {
            String ahead = String.join(" ", Arrays.asList(text).subList(0, i)) + " ";
            String behind = " " + String.join(" ", Arrays.asList(text).subList(i + 1, text.length));
            asDue(ahead);
            asDue(ahead + text[i]);
            asDue(ahead + behind);
            for (String other : others) {
                asDue(ahead + other + behind);
                asDue(ahead + other + " " + text[i] + behind);
            }
        }
    }

    private static void asDue(String text) {
        Oracle o = new Oracle();
        o.tape.append(text);
        int fault = o.read();
        check.fault(text, fault, o.place);
    }

    private static void token401() {
        good(MANY);
        check.fault(MANY + "trial;", 2, MANY_BYTES + 5);
        // 400 TOKENS just fit.
        String full = "trial;trial;" + "fuel 1;".repeat(132);
        good(full);
        good(full + " ");
        check.fault(full + "fuel 1;", 2, full.length());
        check.fault(full + " \n row w{}", 2, full.length() + 3);
        check.fault(full + "trial;", 2, full.length());
        check.fault(full + "x", 1, full.length());
        check.fault(full + ";", 1, full.length());
        check.fault(full + "=", 1, full.length());
        // The text may end where the 401st would be, but only behind a whole TELL.
        String open = full.substring(0, full.length() - 1) + "  ";
        check.fault(open, 1, open.length());
        check.fault(full.substring(0, full.length() - 3) + ";", 1, full.length() - 3);
        // A FAULT ahead of the 401st comes first, one behind it does not count.
        check.fault("= " + full + "fuel", 1, 0);
        check.fault(full + "fuel = row row", 2, full.length());
        check.fault("fuel 301;" + full.substring(0, full.length() - 7) + "fuel", 2, full.length() + 2);
        check.fault("fuel 301;" + full.substring(0, full.length() - 7), 5, 5);
        MiceEngine x = Check.told("row w{out 5;}" + "trial;" + "fuel 2;".repeat(129) + "trial;");
        check.due("TELLS up to the 398th TOKEN", x.count(1), 2);
    }

    private static void fifthRow() {
        String three = "row a{}row b{}row c{}";
        good(three);
        good(three + "row d{}");
        check.due("4 ROWS", Check.told(three + "row d{}").count(0), 4);
        check.fault(three + "row d{}row e{}", 2, 28);
        check.fault(three + "row d{}trial; row", 2, 35);
        check.fault(three + "row d{}row 5", 2, 28);
        check.fault(three + "row d{}row a{}", 2, 28);
        good(three + "row d{}trial;fuel 1;");
        check.fault(three + "row d{} rows", 1, 29);
    }

    private static void line17() {
        for (String line : new String[] {"skip;", "x:skip;", "set ka 1;", "end;"}) {
            String lines = line.repeat(16);
            good("row w{" + line.repeat(15) + "}");
            good("row w{" + lines + "}");
            check.due("16 LINES", Check.told("row w{" + lines + "}").lines(0), 16);
            check.fault("row w{" + lines + line + "}", 2, 6 + lines.length());
            check.fault("row w{" + lines + "x", 2, 6 + lines.length());
            check.fault("row w{" + lines + "call x", 2, 6 + lines.length());
            check.fault("row w{" + lines + "  out =", 2, 8 + lines.length());
        }
        String full = "skip;".repeat(16);
        good("row a{" + full + "}row b{" + full + "}row c{" + full + "}row d{" + full + "}");
        check.fault("row a{" + full + "}row b{" + full + "skip;}", 2, 7 + 80 + 6 + 80);
        good("row a{" + full + "}row b{skip;}");
    }

    private static void ninthTrial() {
        good("trial;".repeat(7));
        good("trial;".repeat(8));
        check.due("8 TRIALS", Check.told("trial;".repeat(8)).count(1), 8);
        check.fault("trial;".repeat(9), 2, 48);
        check.fault("trial;".repeat(8) + "\ttrial 1", 2, 49);
        check.fault("trial;".repeat(8) + "trial =", 2, 48);
        check.fault("trial gives 1;".repeat(8) + "trial gives;", 2, 112);
        good("trial gives;".repeat(8) + "fuel 3;row w{}");
    }

    private static void seventhNumber() {
        good("trial 1 2 3 4 5;");
        good("trial 1 2 3 4 5 6;");
        good("trial -1-2-3-4-5-6;");
        check.fault("trial 1 2 3 4 5 6 7;", 2, 18);
        check.fault("trial 1 2 3 4 5 6 -7;", 2, 18);
        check.fault("trial 1 2 3 4 5 6 - 7;", 2, 18);
        check.fault("trial 1 2 3 4 5 6 - =", 2, 18);
        check.fault("trial 1 2 3 4 5 6 7 gives 8;", 2, 18);
        check.fault("trial;trial -1-2-3-4-5-6-7;", 2, 24);
        good("trial 1 2 3 4 5 6 gives 7;");
        good("trial 1 2 3 4 5 6;trial 1 2 3 4 5 6;");
        MiceEngine x = Check.told("row w{out in;out in;out in;out in;out in;out in;out in;}trial 1 2 3 4 5 -6 gives 9;");
        check.due("count(10)", x.count(10), 6);
        check.due("the 6th", x.out(0, 0, 0, 5), -6);
        check.due("no 7th", x.out(0, 0, 0, 6), 0);
    }

    private static void ninthGiven() {
        good("trial gives 1 2 3 4 5 6 7;");
        good("trial gives 1 2 3 4 5 6 7 8;");
        good("trial 1 2 3 4 5 6 gives -1-2-3-4-5-6-7-8;");
        check.fault("trial gives 1 2 3 4 5 6 7 8 9;", 2, 28);
        check.fault("trial gives 1 2 3 4 5 6 7 8 -9;", 2, 28);
        check.fault("trial gives 1 2 3 4 5 6 7 8 - -", 2, 28);
        check.fault("trial 1 2 3 4 5 6 gives-1-2-3-4-5-6-7-8-9;", 2, 39);
        MiceEngine x = Check.told("row w{" + "out in;".repeat(6) + "out 7;out 8;}trial 1 2 3 4 5 6 gives 1 2 3 4 5 6 7 8;");
        check.due("count(20)", x.count(20), 8);
        check.due("all 8 count", x.does(0, 0), 1);
        check.due("the 8th counts", x.does(0, 128), 0);
    }

    private static void laterOnes() {
        check.fault("fuel 0;row", 1, 10);
        check.fault("fuel 0;" + "trial;".repeat(9), 2, 55);
        check.fault("row a{}row a{go x;call y;} fuel 301; =", 1, 37);
        check.fault("row a{go x;skip}", 1, 15);
        check.fault("row a{go x;" + "skip;".repeat(16) + "}", 2, 86);
        check.fault("row a{call b;}trial 1 2 3 4 5 6 7;", 2, 32);
        check.fault("fuel 301", 1, 8);
        check.fault("row a{}row a", 1, 12);
        check.fault("row a{}row a{", 1, 13);
        check.fault("row a{go x", 1, 10);
        check.fault("row a{go x;", 1, 11);
    }

    private static void twice() {
        good("row a{}row b{}row c{}row d{}");
        check.fault("row a{}row a{}", 3, 11);
        check.fault("row a{}row  a {}", 3, 12);
        check.fault("row a{}row b{}row c{}row a{}", 3, 25);
        check.fault("row a{}row b{}row c{}row c{}", 3, 25);
        check.fault("row a{}row b{}row b{}row a{}", 3, 18);
        // A LINE's NAME is none of a ROW, and may be told more than once.
        good("row a{a:skip;b:skip;}row b{a:skip;a:skip;a:go a;}");
        good("row a{}row aa{}row ab{}");
        check.fault("row a{}row a{call a;}", 3, 11);
    }

    private static void jumpNames() {
        good("row a{x:go x;}");
        good("row a{go x;x:skip;}");
        good("row a{x:skip;skip;go x;}");
        good("row a{if 1<1 x;x:skip;}");
        good("row a{" + "skip;".repeat(14) + "go x;x:end;}");
        good("row a{x:skip;" + "skip;".repeat(14) + "if ka<1 x;}");
        check.fault("row a{go x;}", 4, 9);
        check.fault("row a{if 1<1 x;}", 4, 13);
        check.fault("row a{if -1<=-1 x;}", 4, 16);
        check.fault("row a{x:skip;}row b{go x;}", 4, 23);
        check.fault("row a{go x;}row b{x:skip;}", 4, 9);
        check.fault("row a{go a;}", 4, 9);
        check.fault("row x{}row a{go x;}", 4, 16);
        check.fault("row a{x:skip;go y;go z;}", 4, 16);
        check.fault("row a{go x;go y;x:skip;}", 4, 14);
        // The last LINE's place is its own, also with others of the same NAME.
        check.fault("row a{" + "skip;".repeat(15) + "go x;}", 4, 84);
    }

    private static void callNames() {
        good("row a{}row b{call a;}");
        good("row a{}row b{}row c{}row d{call a;call b;call c;}");
        check.fault("row a{call a;}", 4, 11);
        check.fault("row a{call b;}row b{}", 4, 11);
        check.fault("row a{}row b{call b;}", 4, 18);
        check.fault("row a{}row b{call c;}row c{}", 4, 18);
        check.fault("row a{x:skip;call x;}", 4, 18);
        check.fault("row a{x:skip;}row b{call x;}", 4, 25);
        check.fault("row a{}row b{call a;call c;}", 4, 25);
        check.fault("row a{call a;go x;}", 4, 11);
    }

    private static void wrongFuel() {
        check.fault("fuel 0;", 5, 5);
        check.fault("fuel 00;", 5, 5);
        check.fault("fuel  0000;", 5, 6);
        good("fuel 1;");
        good("fuel 300;");
        good("fuel 0300;");
        check.fault("fuel 301;", 5, 5);
        check.fault("fuel 1000;", 5, 5);
        check.fault("fuel 9999;", 5, 5);
        check.fault("fuel 300;fuel 301;fuel 0;", 5, 14);
    }

    private static MiceEngine busy() {
        MiceEngine x = Check.told("row v{out 1;skip;}row w{call v;out in;x:skip;}trial 5;trial gives 1;fuel 7;");
        x.see(1, 0, 1);
        x.hold(1);
        x.put(0, 1, 0);
        x.see(1, 1, 2);
        x.see(1, 0, 4);
        return x;
    }

    private static void changesNothing() {
        String[] texts = {"=", "row", "row w{}row v{}trial 1;fuel 1;x", "trial;".repeat(9), "row a{}row a{}",
            "row b{out 2;go x;}trial 1;", "trial 9;fuel 301;", "row a{call a;}", "trial 1 2 3 4 5 6 7;"};
        int[] faults = {1, 1, 1, 2, 3, 4, 5, 4, 2};
        int[] places = {0, 3, 29, 48, 11, 15, 13, 11, 18};
        for (int i = 0; i < texts.length; i++) {
            MiceEngine x = busy();
            Check.feed(x, texts[i]);
            check.due("bytes", x.count(5), texts[i].length());
            check.due("read() of " + texts[i], x.read(), faults[i]);
            check.due("place() of " + texts[i], x.place(), places[i]);
            check.due("the tape is empty", x.count(5), 0);
            String was = Look.at(busy()).replaceAll("(now|slot .): place -1", "$1: place " + places[i]);
            check.due("nothing but the tape changes by " + texts[i], Look.at(x).equals(was), true);
        }
    }

    private static void inPlace() {
        MiceEngine x = busy();
        check.due("SEEN ahead", x.count(4), 2);
        check.due("SLOTS ahead", x.count(6), 1);
        Check.feed(x, "row z{end;}trial 1 2;");
        check.due("read()", x.read(), 0);
        int[] due = {1, 1, 0, 100, 0, 0, 0};
        for (int what = 0; what < due.length; what++) {
            check.due("count(" + what + ")", x.count(what), due[what]);
        }
        check.due("lines(0)", x.lines(0), 1);
        check.due("lines(1)", x.lines(1), -1);
        check.due("count(10)", x.count(10), 2);
        check.due("count(20)", x.count(20), -2);
        check.due("count(11)", x.count(11), -1);
        for (int slot = 0; slot < 3; slot++) {
            check.due("restore(" + slot + ")", x.restore(slot), false);
        }
        check.due("what is SEEN may be of any ROW again", x.see(0, 0, 1), 0);
        x = busy();
        check.due("an empty text as well", x.read(), 0);
        int[] none = {0, 0, 0, 100, 0, 0, 0};
        for (int what = 0; what < none.length; what++) {
            check.due("count(" + what + ")", x.count(what), none[what]);
        }
        check.due("restore(1)", x.restore(1), false);
        for (int slot = 0; slot < 3; slot++) {
            x = busy();
            x.hold(slot);
            Check.feed(x, "row z{end;}");
            check.due("read()", x.read(), 0);
            check.due("count(6)", x.count(6), 0);
            check.due("nothing is held", x.restore(slot), false);
        }
        // The ROWS are as told, though LINES were put into the same text's ROWS ahead.
        x = Check.told("row w{skip;}trial;");
        x.put(0, 0, 0);
        Check.feed(x, "row w{skip;}trial;");
        check.due("read()", x.read(), 0);
        check.due("lines(0)", x.lines(0), 1);
    }
}
