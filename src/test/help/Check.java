/** Counts answers that are not as due, feeds texts, and ends a test with its exit code. */
final class Check {
    private int wrong;
    private int asked;
    private String about = "";

    void about(String what) {
        about = what;
    }

    void due(String call, long got, long want) {
        asked++;
        if (got != want) {
            wrong++;
            System.out.println(about + ": " + call + " answered " + got + ", due is " + want);
        }
    }

    void due(String call, boolean got, boolean want) {
        due(call, got ? 1 : 0, want ? 1 : 0);
    }

    void end() {
        System.out.println(wrong == 0 ? "all " + asked + " answers are as due" : wrong + " answers are not as due");
        if (wrong != 0 || asked == 0) {
            System.exit(1);
        }
    }

    /** Seeds that are near each other start alike in Random, so they are spread first. */
    static java.util.Random lot(long seed) {
        return new java.util.Random(seed * 0x9E3779B97F4A7C15L);
    }

    /** Puts a text (characters 0 to 255) on the tape. */
    static void feed(MiceEngine x, String text) {
        int rest = (20 - text.length() % 20) % 20;
        StringBuilder padded = new StringBuilder(text);
        for (int i = 0; i < rest; i++) {
            padded.append(' ');
        }
        for (int at = 0; at < padded.length(); at += 20) {
            int[] five = new int[5];
            for (int i = 0; i < 20; i++) {
                five[i / 4] = five[i / 4] << 8 | padded.charAt(at + i);
            }
            x.feed(five[0], five[1], five[2], five[3], five[4]);
        }
        x.back(rest);
    }

    static MiceEngine told(String text) {
        MiceEngine x = new MiceEngine();
        feed(x, text);
        int fault = x.read();
        if (fault != 0) {
            throw new IllegalStateException("fault " + fault + " at " + x.place() + " of " + text);
        }
        return x;
    }

    void fault(String text, int number, int place) {
        MiceEngine x = new MiceEngine();
        feed(x, text);
        String shown = text.length() > 60 ? text.substring(0, 60) + ".." : text;
        due("read() of " + shown, x.read(), number);
        due("place() of " + shown, x.place(), place);
    }
}
