/** The boundaries that the Terms name: bytes, blanks, TOKENS, numbering, FUEL. */
public final class EdgesOfTextsTest {
    private static final Edges edges = new Edges();
    private static final Check check = edges.check;
    private static final String[] WORDS = {"row", "trial", "gives", "fuel", "set", "add", "sub", "mul", "div", "out",
        "go", "if", "call", "end", "skip", "ka", "kb", "kc", "kd", "in"};

    public static void main(String[] args) {
        edges.sentence("A TEXT has 2,000 bytes at most.", EdgesOfTextsTest::bytes);
        edges.sentence("with blanks (9, 10, 13, 32) between or not", EdgesOfTextsTest::blanks);
        edges.sentence("with blanks (9, 10, 13, 32) between or not", EdgesOfTextsTest::noBlanks);
        edges.sentence("TOKENS, the longest that can be", EdgesOfTextsTest::longest);
        edges.sentence("NAMES (letters a .. z, 8 at most, none of the words in quotes)", EdgesOfTextsTest::letters);
        edges.sentence("NAMES (letters a .. z, 8 at most, none of the words in quotes)", EdgesOfTextsTest::eightLetters);
        edges.sentence("NAMES (letters a .. z, 8 at most, none of the words in quotes)", EdgesOfTextsTest::unlikeNames);
        edges.sentence("NAMES (letters a .. z, 8 at most, none of the words in quotes)", EdgesOfTextsTest::words);
        edges.sentence("INTS (1 to 4 digits)", EdgesOfTextsTest::digits);
        edges.sentence("SIGNS ; : { } == != < <= - .", EdgesOfTextsTest::signs);
        edges.sentence("A longer one, all else, is no TOKEN.", EdgesOfTextsTest::allElse);
        edges.sentence("text: {TELL}.", EdgesOfTextsTest::noTells);
        edges.sentence("TELL: 'row' NAME '{' {LINE} '}' | 'trial' {N} ['gives' {N}] ';' | 'fuel' INT ';'.",
            EdgesOfTextsTest::leastTells);
        edges.sentence("LINE: [NAME ':'] ORDER ';'.", EdgesOfTextsTest::namedLines);
        edges.sentence("ORDER: ('set' | 'add' | 'sub' | 'mul' | 'div') C V | 'out' V | 'go' NAME | 'if' V ('==' | '!=' | '<' | '<=') V "
            + "NAME | 'call' NAME | 'end' | 'skip'.", EdgesOfTextsTest::orders);
        edges.sentence("C: 'ka' | 'kb' | 'kc' | 'kd'. V: N | C | 'in'.", EdgesOfTextsTest::counters);
        edges.sentence("N: ['-'] INT.", EdgesOfTextsTest::numbers);
        edges.sentence("ROWS, the LINES of each, TRIALS are numbered each from 0 on as they stand.",
            EdgesOfTextsTest::numbering);
        edges.sentence("FUEL 1 .. 300 (100 if not told; the last one told).", EdgesOfTextsTest::fuel);
        edges.sentence("FUEL 1 .. 300 (100 if not told; the last one told).", EdgesOfTextsTest::fuelUntold);
        edges.sentence("FUEL 1 .. 300 (100 if not told; the last one told).", EdgesOfTextsTest::lastFuel);
        check.end();
    }

    private static void good(String text) {
        check.fault(text, 0, -1);
    }

    private static void syntax(String text, int place) {
        check.fault(text, 1, place);
    }

    /** Blanks up to a TOKEN that ends at the byte told. */
    private static String endingAt(int bytes, String last) {
        return " ".repeat(bytes - last.length()) + last;
    }

    private static void bytes() {
        good(endingAt(1999, "fuel 7;"));
        good(endingAt(2000, "fuel 7;"));
        MiceEngine x = Check.told(endingAt(2000, "fuel 7;"));
        check.due("the 2000th byte is read", x.count(3), 7);
        syntax(endingAt(1999, "fuel 7"), 1999);
        syntax(endingAt(2000, "fuel 7"), 2000);
        syntax(endingAt(2000, "="), 1999);
        good(" ".repeat(2000));
        x = new MiceEngine();
        Check.feed(x, endingAt(2000, "fuel 7"));
        check.due("a 2001st byte", x.feed(0x3b202020, 0x20202020, 0x20202020, 0x20202020, 0x20202020), -1);
        check.due("read()", x.read(), 1);
        check.due("place()", x.place(), 2000);
    }

    private static void blanks() {
        for (int sign = 0; sign < 256; sign++) {
            if (sign == 9 || sign == 10 || sign == 13 || sign == 32) {
                char b = (char) sign;
                good(b + "row" + b + "w" + b + "{" + b + "}" + b);
                good("trial 1" + b + b + "2;" + b);
            } else if (sign < 32) {
                syntax("row w" + (char) sign + "{}", 5);
                syntax("fuel 1;" + (char) sign, 7);
            }
        }
        good("\t\n\r row\t\n\r w\t\n\r {\t\n\r }\t\n\r ");
        syntax("row w {\t\n\r ", 11);
        syntax("\t\n\r x", 4);
    }

    private static void noBlanks() {
        good("row w{x:set ka-1;if ka==1x;if 1<=2x;out-1;go x;}trial-1-2gives-3 4;fuel 1;");
        good("row w{out1;out2;if1!=1x;x:out0;}trial1gives1;fuel1;");
        good("row w{if-1<-1x;x:skip;}");
        check.due("trial1-2", Check.told("trial1-2;").count(10), 2);
        check.due("trial12", Check.told("trial12;").count(10), 1);
        check.due("trial1 2", Check.told("trial1 2;").count(10), 2);
    }

    private static void longest() {
        syntax("roww{}", 0);
        syntax("fuelx 1;", 0);
        syntax("row w{setka 1;}", 12);
        syntax("row w{outka;}", 11);
        syntax("row w{skipx;}", 11);
        syntax("trial gives1gives;", 12);
        syntax("row w{if ka< =1x;x:skip;}", 13);
        syntax("row w{if ka= =1x;x:skip;}", 11);
        syntax("row w{if ka! =1x;x:skip;}", 11);
        good("row w{if ka<=1x;x:skip;}");
        syntax("row w{out 1 2;}", 12);
        MiceEngine x = Check.told("row w{out 12;if 1<=1x;out 7;x:skip;}trial;");
        check.due("12 is one INT", x.out(0, 0, 0, 0), 12);
        check.due("<= is one SIGN", x.after(0, 0, 0, 0), 1);
    }

    private static void letters() {
        good("row a{}");
        good("row z{}");
        good("row abcdefg{}row hijklmn{}row opqrstu{}row vwxyz{}");
        for (char sign : new char[] {'a' - 1, 'A', 'Z', '_', '@', '[', '|', '}' + 1, (char) ('a' + 128), (char) 223, 0}) {
            syntax("row " + sign + "{}", 4);
            syntax("row w" + sign + "{}", 5);
        }
        syntax("row w0{}", 5);
        syntax("row 0w{}", 4);
        syntax("Row w{}", 0);
    }

    private static void eightLetters() {
        good("row abcdefg{}");
        good("row abcdefgh{}");
        syntax("row abcdefghi{}", 4);
        syntax("row zzzzzzzzz{}", 4);
        good("row w{zzzzzzzz:go zzzzzzzz;}");
        syntax("row w{zzzzzzzzz:go zzzzzzzzz;}", 6);
        syntax("row w{zzzzzzzz:go zzzzzzzzz;}", 18);
        syntax("row w{abcdefghi:skip;}", 6);
        good("row abcdefgh{}row abcdefgi{}row bbcdefgh{}row abcdefg{}");
        check.fault("row abcdefgh{}row abcdefgh{}", 3, 18);
        check.fault("row w{abcdefgh:skip;go abcdefgi;}", 4, 23);
        good("row w{abcdefgh:skip;go abcdefgh;}");
        check.fault("row w{a:skip;go aa;}", 4, 16);
        check.fault("row w{aa:skip;go a;}", 4, 17);
        syntax("row w{" + "a".repeat(1900) + ":skip;}", 6);
    }

    /** Each letter counts wherever it stands, and so does how many there are. */
    private static void unlikeNames() {
        for (char first = 'a'; first <= 'z'; first++) {
            check.fault("row p{skip;go " + first + ";}", 4, 14);
            good("row " + first + "{}row " + first + first + "{}row " + first + first + first + "{}");
            check.fault("row p{" + first + first + ":skip;skip;go " + first + ";}", 4, 22);
            for (char second = 'a'; second <= 'z'; second++) {
                String pair = "" + first + second;
                if (!java.util.Arrays.asList(WORDS).contains(pair)) {
                    check.fault("row p{" + second + ":skip;" + first + ":skip;go " + pair + ";}", 4, 23);
                    check.fault("row p{" + pair + ":skip;go " + second + ";}", 4, 17);
                    check.fault("row " + second + "{}row zzz{call " + pair + ";}", 4, 20);
                    good("row p{" + pair + ":go " + second + ";" + second + ":go " + pair + ";}");
                }
            }
        }
        for (int i = 0; i < 8; i++) {
            for (char letter = 'b'; letter <= 'z'; letter++) {
                String other = "a".repeat(i) + letter + "a".repeat(7 - i);
                check.fault("row p{aaaaaaaa:skip;go " + other + ";}", 4, 23);
                good("row aaaaaaaa{}row " + other + "{}");
            }
        }
    }

    private static void words() {
        for (String word : WORDS) {
            syntax("row " + word + "{}", 4);
            syntax("row w{go " + word + ";x:skip;}", 9);
            syntax("row w{if 1<1 " + word + ";x:skip;}", 13);
            syntax("row v{}row w{call " + word + ";}", 18);
            int colon = "set add sub mul div out go if call end skip".contains(word) ? 6 + word.length() : 6;
            syntax("row w{" + word + ":skip;}", colon);
            good("row " + word + "x{}");
            good("row x" + word + "{}");
            good("row w{" + word + "s:go " + word + "s;}");
            if (!"fuel in if go gives".contains(word)) {
                String shorter = word.substring(0, word.length() - 1);
                good("row " + shorter + "{}");
            }
        }
        good("row ke{}row k{}row kaa{}row i{}");
        good("row f{}row give{}row fue{}row g{}");
    }

    private static void digits() {
        MiceEngine x = Check.told("row w{out 0;out 9;out 10;out 999;out 1000;out 9999;out 0000;out 0099;}trial;");
        int[] due = {0, 9, 10, 999, 1000, 9999, 0, 99};
        for (int i = 0; i < due.length; i++) {
            check.due("out(0,0,0," + i + ")", x.out(0, 0, 0, i), due[i]);
        }
        syntax("row w{out 10000;}", 10);
        syntax("row w{out 00000;}", 10);
        syntax("row w{out -12345;}", 11);
        syntax("trial 12345;", 6);
        good("trial 1234;");
        good("trial 1234 5;");
        syntax("trial gives 12345;", 12);
        syntax("fuel 00001;", 5);
        good("fuel 0001;");
        syntax("fuel " + "1".repeat(1900) + ";", 5);
        syntax("fuel /;", 5);
        syntax("fuel :;", 5);
        syntax("fuel 1/;", 6);
    }

    private static void signs() {
        good("row w{x:if 1==1x;}");
        good("row w{x:if 1!=1x;}");
        good("row w{x:if 1<1x;}");
        good("row w{x:if 1<=1x;}");
        good("row w{out-1;}");
        for (String wrong : new String[] {"=", "!", ">", ">=", "=<", "=!", "<>", "~", "&", "?", ".", "+"}) {
            boolean begins = wrong.charAt(0) == '<';
            syntax("row w{x:if 1" + wrong + "1x;}", begins ? 13 : 12);
        }
        syntax("row w{x:if 1===1x;}", 14);
        syntax("row w{x:if 1!==1x;}", 14);
        syntax("row w{x:if 1<==1x;}", 14);
        syntax("row w{x:if 1<<1x;}", 13);
        syntax("row w{x:if 1=", 12);
        syntax("row w{x:if 1!", 12);
        syntax("row w{x:if 1<", 13);
        syntax("row w{x:if 1<=", 14);
        syntax("row w(}", 5);
        syntax("row w[]", 5);
        syntax("row w{skip,}", 10);
        syntax("row w{skip.}", 10);
        syntax("row w{}.", 7);
        syntax("row w{out+1;}", 9);
    }

    private static void allElse() {
        for (int sign = 0; sign < 256; sign++) {
            boolean isBlank = sign == 9 || sign == 10 || sign == 13 || sign == 32;
            boolean isLetter = sign >= 'a' && sign <= 'z';
            if (!isBlank && !isLetter) {
                syntax("row w{}" + (char) sign, 7);
                syntax((char) sign + "row w{}", 0);
            }
            boolean isDigit = sign >= '0' && sign <= '9';
            if (!isBlank && !isLetter && !isDigit && sign != ';') {
                syntax("fuel 5" + (char) sign + ";", 6);
            }
        }
        syntax("abcdefghi", 0);
        syntax("row w{} 12345", 8);
    }

    private static void noTells() {
        MiceEngine x = Check.told("");
        check.due("no ROWS", x.count(0), 0);
        check.due("no TRIALS", x.count(1), 0);
        x = Check.told(" ");
        check.due("no ROWS", x.count(0), 0);
        syntax(";", 0);
        good("fuel 1;");
        good("fuel 1;fuel 2;trial;row w{}fuel 3;trial;row v{}");
    }

    private static void leastTells() {
        MiceEngine x = Check.told("row w{}trial;trial gives;trial 1;trial gives 1;trial 1 gives 1;fuel 1;");
        check.due("no LINES", x.lines(0), 0);
        int[] ahead = {0, 0, 1, 0, 1};
        int[] behind = {-2, 0, -2, 1, 1};
        for (int t = 0; t < 5; t++) {
            check.due("count(" + (10 + t) + ")", x.count(10 + t), ahead[t]);
            check.due("count(" + (20 + t) + ")", x.count(20 + t), behind[t]);
        }
        syntax("row{}", 3);
        syntax("row w}", 5);
        syntax("row w{", 6);
        syntax("row w{};", 7);
        syntax("row v w{}", 6);
        syntax("trial", 5);
        syntax("trial gives", 11);
        syntax("trial gives gives;", 12);
        syntax("gives 1;", 0);
        syntax("fuel 1", 6);
        syntax("fuel 1 1;", 7);
        syntax("fuel -1;", 5);
        syntax("fuel ka;", 5);
    }

    private static void namedLines() {
        good("row w{skip;}");
        good("row w{x:skip;}");
        good("row w{x : skip ;}");
        syntax("row w{x:y:skip;}", 8);
        syntax("row w{:skip;}", 6);
        syntax("row w{x:;}", 8);
        syntax("row w{x:}", 8);
        syntax("row w{x}", 7);
        syntax("row w{skip}", 10);
        syntax("row w{skip;;}", 11);
        syntax("row w{;}", 6);
        MiceEngine x = Check.told("row w{skip;x:skip;}");
        check.due("without a NAME", x.line(0, 0, 1), 1);
        check.due("with a NAME", x.line(0, 1, 1), 3);
    }

    /** An ORDER with a part too few is SYNTAX where the part should be, with one too many at that part. */
    private static void parts(String order) {
        String[] tokens = order.split(" ");
        String ahead = "row v{}row w{x:skip;";
        good(ahead + order + ";}");
        String so = ahead;
        for (int i = 0; i < tokens.length; i++) {
            if (i > 0) {
                syntax(so + ";}", so.length());
                syntax(so + "}", so.length());
                syntax(so + ":", so.length());
                syntax(so, so.length());
                if (!tokens[i - 1].equals("-")) {
                    syntax(so + "end;}", so.length());
                }
            }
            so = so + tokens[i] + " ";
        }
        for (String more : new String[] {"1", "ka", "in", "x", "skip", "==", "-", ":", "{", "}", "row", "="}) {
            syntax(so + more + ";}", so.length());
        }
        syntax(so, so.length());
    }

    private static void orders() {
        for (String order : new String[] {"set", "add", "sub", "mul", "div"}) {
            parts(order + " ka 1");
            parts(order + " kd - 1");
            parts(order + " kb kc");
            parts(order + " kc in");
            int at = ("row w{" + order + " ").length();
            for (String wrong : new String[] {"in", "1", "x", "ke", "k", "kaa", "-1", "-", "==", "set"}) {
                syntax("row w{" + order + " " + wrong + " 1;}", at);
            }
        }
        for (String test : new String[] {"==", "!=", "<", "<="}) {
            parts("if 1 " + test + " 2 x");
            parts("if - 1 " + test + " - 2 x");
            parts("if in " + test + " in x");
            parts("if ka " + test + " kd x");
        }
        for (String order : new String[] {"out 1", "out - 1", "out kd", "out in", "go x", "call v", "end", "skip"}) {
            parts(order);
        }
        for (String wrong : new String[] {"1", "-1", "ka", "in", "row", "==", ";"}) {
            syntax("row v{}row w{x:go " + wrong + ";}", 18);
            syntax("row v{}row w{call " + wrong + ";}", 18);
        }
        for (String wrong : new String[] {"ka", "kd", "in", "row", "trial", "gives", "fuel", "1", "-", "==", ":", "{"}) {
            syntax("row w{" + wrong + " 1;}", 6);
            syntax("row w{x:" + wrong + " 1;}", 8);
        }
        for (String wrong : new String[] {"-", "1", "x", ";", "ka", ":", "="}) {
            syntax("row w{x:if 1 " + wrong + " 2 x;}", 13);
        }
    }

    private static void counters() {
        String[] all = {"ka", "kb", "kc", "kd"};
        for (int c = 0; c < 4; c++) {
            MiceEngine x = Check.told("row w{set " + all[c] + " 7;add " + all[c] + " " + all[c] + ";out " + all[c] + ";}trial;");
            check.due("out " + all[c], x.out(0, 0, 0, 0), 14);
            for (int other = 0; other < 4; other++) {
                check.due(all[other] + " by " + all[c], x.after(0, 0, 0, 2 + other), other == c ? 14 : 0);
            }
        }
        for (String wrong : new String[] {"k", "ke", "kk", "a", "kab", "xka", "set", "go", "==", "row", ";", "{"}) {
            syntax("row w{out " + wrong + ";}", 10);
            syntax("row w{x:if " + wrong + " < 1 x;}", 11);
            syntax("row w{x:if 1 < " + wrong + " x;}", 15);
            syntax("row w{set ka " + wrong + ";}", 13);
        }
    }

    private static void numbers() {
        MiceEngine x = Check.told("row w{out -9999;out - 0;out 9999;out in;out in;}trial -9999 - 1;");
        int[] due = {-9999, 0, 9999, -9999, -1};
        for (int i = 0; i < due.length; i++) {
            check.due("out(0,0,0," + i + ")", x.out(0, 0, 0, i), due[i]);
        }
        syntax("trial --1;", 7);
        syntax("trial 1-;", 8);
        syntax("row w{out --1;}", 11);
        syntax("row w{out -ka;}", 11);
        syntax("row w{out -in;}", 11);
        syntax("row w{set ka -;}", 14);
        good("trial 1-1;");
    }

    private static void numbering() {
        MiceEngine x = Check.told("row a{skip;}trial 1;row b{end;out 2;}trial 1 2;row c{out 3;out in;go x;x:skip;}"
            + "row d{set ka 1;add kb 1;sub kc 1;}trial gives 1;");
        int[] sizes = {1, 2, 4, 3};
        for (int r = 0; r < 4; r++) {
            check.due("lines(" + r + ")", x.lines(r), sizes[r]);
        }
        check.due("lines(4)", x.lines(4), -1);
        check.due("lines(-1)", x.lines(-1), -1);
        check.due("line(0,0,0)", x.line(0, 0, 0), 10);
        check.due("line(1,0,0)", x.line(1, 0, 0), 9);
        check.due("line(1,1,0)", x.line(1, 1, 0), 5);
        check.due("line(2,3,0)", x.line(2, 3, 0), 10);
        check.due("line(3,2,0)", x.line(3, 2, 0), 2);
        check.due("count(10)", x.count(10), 1);
        check.due("count(11)", x.count(11), 2);
        check.due("count(12)", x.count(12), 0);
        check.due("count(22)", x.count(22), 1);
        check.due("count(13)", x.count(13), -1);
        check.due("step(3,0,0,2)", x.step(3, 0, 0, 2), 62);
    }

    private static void fuel() {
        check.fault("fuel 0;", 5, 5);
        check.fault("fuel 1;", 0, -1);
        check.fault("fuel 2;", 0, -1);
        check.fault("fuel 299;", 0, -1);
        check.fault("fuel 300;", 0, -1);
        check.fault("fuel 301;", 5, 5);
        check.fault("fuel 9999;", 5, 5);
        for (int fuel : new int[] {1, 2, 299, 300}) {
            MiceEngine x = Check.told("row w{x:go x;}trial;fuel " + fuel + ";");
            check.due("count(3)", x.count(3), fuel);
            check.due("STEPS of " + fuel, x.after(0, 0, 0, 1), fuel);
            check.due("the last STEP of " + fuel, x.step(0, 0, 0, fuel - 1), 0);
            check.due("none more of " + fuel, x.step(0, 0, 0, fuel), -1);
        }
    }

    private static void fuelUntold() {
        MiceEngine x = Check.told("row w{x:go x;}trial;");
        check.due("count(3)", x.count(3), 100);
        check.due("STEPS", x.after(0, 0, 0, 1), 100);
        Check.feed(x, "row w{x:go x;}trial;fuel 5;");
        check.due("read()", x.read(), 0);
        check.due("STEPS", x.after(0, 0, 0, 1), 5);
        Check.feed(x, "row w{x:go x;}trial;");
        check.due("read()", x.read(), 0);
        check.due("not told by the text that is now", x.count(3), 100);
        check.due("STEPS", x.after(0, 0, 0, 1), 100);
    }

    private static void lastFuel() {
        MiceEngine x = Check.told("fuel 7;row w{x:go x;}fuel 300;trial;fuel 3;");
        check.due("count(3)", x.count(3), 3);
        check.due("STEPS", x.after(0, 0, 0, 1), 3);
        check.due("a greater one behind", Check.told("fuel 3;fuel 300;").count(3), 300);
        check.fault("fuel 301;fuel 5;", 5, 5);
        check.fault("fuel 5;fuel 0;", 5, 12);
    }
}
