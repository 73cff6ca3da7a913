import java.util.ArrayList;
import java.util.List;
import java.util.Random;

/** Makes texts by lot: good ones of several kinds, and ones with something broken in them. */
final class TextMaker {
    private static final String[] NAMES = {"x", "y", "z", "loop"};
    private static final String[] COUNTERS = {"ka", "kb", "kc", "kd"};
    private static final String[] TESTS = {"==", "!=", "<", "<="};
    private static final String[] PIECES = {"row", "trial", "gives", "fuel", "set", "add", "div", "out", "go", "if",
        "call", "end", "skip", "ka", "kd", "in", "x", "y", "w", ";", ":", "{", "}", "==", "!=", "<", "<=", "-", "=",
        "!", "0", "7", "301", "12345", "abcdefghi", "\u00ff", " ", "\n"};
    private final Random lot;

    TextMaker(Random lot) {
        this.lot = lot;
    }

    String good(int mostRows, int mostLines, int mostTrials, int mostFuel) {
        StringBuilder text = new StringBuilder();
        int rows = 1 + lot.nextInt(mostRows);
        boolean hasOnce = lot.nextInt(4) == 0;
        for (int r = 0; r < rows; r++) {
            text.append("row ").append((char) ('p' + r)).append(" { ");
            if (r == 0 && hasOnce) {
                text.append("if kd != 0 x; set kd ").append(1 + lot.nextInt(2)).append("; out kd; x: skip; ");
            } else {
                appendLines(text, r, lot.nextInt(mostLines + 1));
            }
            text.append("} ");
        }
        int trials = lot.nextInt(mostTrials + 1);
        for (int t = 0; t < trials; t++) {
            text.append("trial").append(numbers(lot.nextInt(4)));
            if (lot.nextInt(3) == 0) {
                text.append(" gives").append(numbers(lot.nextInt(3)));
            }
            text.append("; ");
        }
        if (lot.nextInt(5) != 0) {
            text.append("fuel ").append(1 + lot.nextInt(mostFuel)).append(";");
        }
        return text.toString();
    }

    private void appendLines(StringBuilder text, int row, int size) {
        List<String> names = new ArrayList<>();
        List<String> used = new ArrayList<>();
        for (int i = 0; i < size; i++) {
            String name = lot.nextInt(3) == 0 ? NAMES[lot.nextInt(NAMES.length)] : "";
            names.add(name);
            if (!name.isEmpty()) {
                used.add(name);
            }
        }
        for (int i = 0; i < size; i++) {
            if (!names.get(i).isEmpty()) {
                text.append(names.get(i)).append(": ");
            }
            text.append(order(row, used)).append("; ");
        }
    }

    private String order(int row, List<String> used) {
        int which = lot.nextInt(20);
        if (which < 6) {
            String[] kinds = {"set", "add", "sub", "mul", "add", "div"};
            return kinds[which] + " " + counter() + " " + value();
        }
        if (which < 11) {
            return "out " + (lot.nextInt(3) == 0 ? value() : counter());
        }
        if (which < 16 && !used.isEmpty()) {
            String to = used.get(lot.nextInt(used.size()));
            return which < 12 ? "go " + to : "if " + value() + " " + TESTS[lot.nextInt(4)] + " " + value() + " " + to;
        }
        if (which < 18 && row > 0) {
            return "call " + (char) ('p' + lot.nextInt(row));
        }
        return which == 18 ? "end" : which == 19 ? "skip" : "add " + counter() + " " + value();
    }

    private String counter() {
        return COUNTERS[lot.nextInt(4)];
    }

    private String value() {
        int which = lot.nextInt(8);
        if (which < 3) {
            return counter();
        }
        return which < 5 ? "in" : which < 7 ? "" + lot.nextInt(4) : "-" + lot.nextInt(3);
    }

    private String numbers(int size) {
        StringBuilder text = new StringBuilder();
        for (int i = 0; i < size; i++) {
            text.append(lot.nextInt(4) == 0 ? " -" : " ").append(lot.nextInt(4));
        }
        return text.toString();
    }

    /** A good text with a few pieces put in, taken out or changed. */
    String broken(String text) {
        StringBuilder made = new StringBuilder(lot.nextInt(6) == 0 ? text.replace("row q", "row p") : text);
        for (int i = 1 + lot.nextInt(3); i > 0; i--) {
            int at = lot.nextInt(made.length() + 1);
            int end = Math.min(made.length(), at + lot.nextInt(5));
            if (lot.nextBoolean()) {
                made.delete(at, end);
            }
            if (lot.nextBoolean()) {
                made.insert(at, PIECES[lot.nextInt(PIECES.length)]);
            }
        }
        return made.toString();
    }

    /** A text of many TOKENS: near 400 of them, or near another limit. */
    String long_() {
        StringBuilder text = new StringBuilder();
        int rows = 2 + lot.nextInt(4);
        for (int r = 0; r < rows; r++) {
            text.append("row ").append((char) ('p' + lot.nextInt(20) % (lot.nextInt(8) == 0 ? 3 : 20))).append("{");
            int size = 12 + lot.nextInt(6);
            for (int i = 0; i < size; i++) {
                text.append(lot.nextInt(3) == 0 ? "x:if-1<-1x;" : lot.nextBoolean() ? "x:skip;" : "set ka 1;");
            }
            text.append("}");
        }
        for (int t = lot.nextInt(10); t > 0; t--) {
            text.append("trial").append(numbers(4 + lot.nextInt(3))).append(" gives");
            text.append(numbers(5 + lot.nextInt(4))).append(";");
        }
        for (int f = lot.nextInt(40); f > 0; f--) {
            text.append("fuel ").append(lot.nextInt(60) == 0 ? 301 : 300).append(";");
        }
        return text.length() > 2000 ? text.substring(0, 2000) : text.toString();
    }
}
