import java.util.Random;

/** Random texts, broken and long ones, each held against the Oracle: promises 2 to 7. */
public final class RandomTextsTest {
    public static void main(String[] args) {
        Check check = new Check();
        int[] faults = new int[6];
        for (int seed = 0; seed < 20000; seed++) {
            Random lot = Check.lot(seed);
            TextMaker maker = new TextMaker(lot);
            String text = lot.nextInt(3) == 0 ? maker.long_() : maker.good(4, 5, 3, 320);
            if (lot.nextInt(3) != 0) {
                text = maker.broken(text);
            }
            if (text.length() > 2000) {
                text = text.substring(0, 2000);
            }
            MiceEngine x = new MiceEngine();
            Oracle o = new Oracle();
            Check.feed(x, text);
            o.tape.append(text);
            check.about("seed " + seed + ": " + text);
            int fault = o.read();
            faults[fault]++;
            check.due("read()", x.read(), fault);
            check.due("place()", x.place(), o.place);
            for (int what = 0; what < 30; what++) {
                check.due("count(" + what + ")", x.count(what), o.count(what));
            }
            for (int r = 0; r < 4; r++) {
                check.due("lines(" + r + ")", x.lines(r), o.lines(r));
            }
        }
        for (int fault = 0; fault < faults.length; fault++) {
            check.due("texts with fault " + fault, faults[fault] > 50 ? 1 : 0, 1);
        }
        check.end();
    }
}
