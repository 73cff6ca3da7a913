/** An old engine that runs rows of orders and loses lines of them; README.md tells how it is used. */
public final class MiceEngine {
    public static final int NONE = -1;

    private static final int NOT_ANY = -2;
    private static final int TOO_MANY = -3;
    private static final int NO_NUMBER = -2147483648;

    private static final int MOST_BYTES = 2000;
    private static final int MOST_TOKENS = 400;
    private static final int MOST_ROWS = 4;
    private static final int MOST_LINES = 16;
    private static final int MOST_TRIALS = 8;
    private static final int MOST_IN = 6;
    private static final int MOST_OUT = 8;
    private static final int MOST_FUEL = 300;
    private static final int FUEL_UNTOLD = 100;
    private static final int MOST_SEEN = 20;
    private static final int MOST_SLOTS = 3;
    private static final int COUNTERS = 4;
    private static final int STEP_OF_ROW = 20;

    private static final int MOST_LOST = 3;
    private static final int MOST_TAKEN = 2;
    private static final int MOST_SETS = 120;
    private static final int MOST_TRIES = 4;
    private static final int SMALL_ROW = 12;
    private static final int MOST_SOUGHT = 5;
    private static final int MOST_CANDIDATES = 30000;

    private static final int SYNTAX = 1;
    private static final int ROOM = 2;
    private static final int TWICE = 3;
    private static final int NAME = 4;
    private static final int WRONG = 5;

    private static final int END_OF_TEXT = 0;
    private static final int NO_TOKEN = 1;
    private static final int A_NAME = 2;
    private static final int AN_INT = 3;
    private static final int SEMICOLON = 4;
    private static final int COLON = 5;
    private static final int OPENS = 6;
    private static final int CLOSES = 7;
    private static final int MINUS = 8;
    private static final int TEST = 10;
    private static final int WORD = 20;

    // The ORDERS stand first, so that a word's number is its ORDER's.
    private static final String WORDS =
        "set add sub mul div out go if call end skip ka kb kc kd in row trial gives fuel";
    private static final int MOST_WORDS = 20;
    private static final int SET = 0;
    private static final int ADD = 1;
    private static final int SUB = 2;
    private static final int MUL = 3;
    private static final int DIV = 4;
    private static final int OUT = 5;
    private static final int GO = 6;
    private static final int IF = 7;
    private static final int CALL = 8;
    private static final int END = 9;
    private static final int SKIP = 10;
    private static final int KA = 11;
    private static final int KD = 14;
    private static final int IN = 15;
    private static final int ROW = 16;
    private static final int TRIAL = 17;
    private static final int GIVES = 18;
    private static final int FUEL = 19;

    private static final int EQUAL = 0;
    private static final int UNEQUAL = 1;
    private static final int LESS = 2;
    private static final int NOT_MORE = 3;

    private static final int A_NUMBER = 0;
    private static final int A_COUNTER = 1;
    private static final int FROM_TRIAL = 2;

    private static final int OVER = 0;
    private static final int TIRED = 1;
    private static final int BY_ZERO = 2;
    private static final int FULL = 3;
    private static final int UNLIKE_AIM = 4;

    private final Tokens tokens;
    private final Reader reader;
    private final Rows rows;
    private final Trials trials;
    private final Machine machine;
    private final Losses losses;
    private final Orders orders;
    private final Seeker seeker;
    private final Suspicion suspicion;
    private final Rows[] slots;
    private final boolean[] held;
    private int faultPlace;

    public MiceEngine() {
        tokens = new Tokens();
        reader = new Reader(tokens);
        rows = new Rows();
        trials = new Trials();
        machine = new Machine(rows, trials);
        losses = new Losses(rows, trials, machine);
        orders = new Orders(rows, losses);
        seeker = new Seeker(rows, trials, machine);
        suspicion = new Suspicion(rows, trials, machine);
        slots = new Rows[MOST_SLOTS];
        for (int i = 0; i < MOST_SLOTS; i++) {
            slots[i] = new Rows();
        }
        held = new boolean[MOST_SLOTS];
        faultPlace = NONE;
    }

    public int feed(int a, int b, int c, int d, int e) {
        if (tokens.length > MOST_BYTES - 20) {
            return NONE;
        }
        tokens.addInt(a);
        tokens.addInt(b);
        tokens.addInt(c);
        tokens.addInt(d);
        tokens.addInt(e);
        return tokens.length;
    }

    public int back(int n) {
        if (n < 0 || n > tokens.length) {
            return NONE;
        }
        tokens.length -= n;
        return tokens.length;
    }

    public int read() {
        reader.readTape();
        tokens.length = 0;
        faultPlace = reader.fault == 0 ? NONE : reader.faultPlace;
        if (reader.fault == 0) {
            rows.copy(reader.rows);
            trials.copy(reader.trials);
            for (int i = 0; i < MOST_SLOTS; i++) {
                held[i] = false;
            }
            rowsChanged();
        }
        return reader.fault;
    }

    public int place() {
        return faultPlace;
    }

    public int lines(int row) {
        return hasRow(row) ? rows.list[row].size : NONE;
    }

    public int line(int row, int line, int what) {
        if (!hasLine(row, line)) {
            return NONE;
        }
        Line asked = rows.list[row].lines[line];
        if (what == 0) {
            return asked.order;
        }
        if (what == 1) {
            return asked.tokens;
        }
        if (what != 2 || (asked.order != GO && asked.order != IF)) {
            return NONE;
        }
        int to = rows.list[row].where(asked.label, 0);
        return to < 0 ? NOT_ANY : to;
    }

    public int run(int row, int lost, int trial) {
        if (!hasRun(row, lost, trial)) {
            return NONE;
        }
        machine.runs(rows.list[row], lost, trial, null);
        return machine.deed.stop;
    }

    public int after(int row, int lost, int trial, int what) {
        if (!hasRun(row, lost, trial) || what < 0 || what > 1 + COUNTERS) {
            return NONE;
        }
        machine.runs(rows.list[row], lost, trial, null);
        if (what == 0) {
            return machine.deed.size;
        }
        return what == 1 ? machine.steps : machine.counters[what - 2];
    }

    public int out(int row, int lost, int trial, int i) {
        if (!hasRun(row, lost, trial)) {
            return NO_NUMBER;
        }
        machine.runs(rows.list[row], lost, trial, null);
        return i >= 0 && i < machine.deed.size ? machine.deed.numbers[i] : NO_NUMBER;
    }

    public int same(int row, int lost) {
        if (!hasLost(row, lost)) {
            return NONE;
        }
        return losses.firstOther(row, lost) == NOT_ANY ? 1 : 0;
    }

    public int differs(int row, int lost) {
        return hasLost(row, lost) ? losses.firstOther(row, lost) : NONE;
    }

    public int bears(int row, int n) {
        if (!hasRow(row) || n < 0 || n > MOST_LOST) {
            return NONE;
        }
        return losses.firstBroken(row, n) == NOT_ANY ? 1 : 0;
    }

    public int breaks(int row, int n) {
        if (!hasRow(row) || n < 0 || n > MOST_LOST) {
            return NONE;
        }
        return losses.firstBroken(row, n);
    }

    public int idle(int row) {
        return hasRow(row) ? losses.idleLines(row) : NONE;
    }

    public int harm(int row, int line) {
        return hasLine(row, line) ? losses.harmOf(row, line) : NONE;
    }

    public int worst(int row) {
        return hasRow(row) ? losses.worstLine(row) : NONE;
    }

    public int pair(int row) {
        return hasRow(row) ? losses.firstPair(row) : NONE;
    }

    public int mends(int row) {
        if (!hasRow(row)) {
            return NONE;
        }
        return rows.list[row].size >= MOST_LINES ? NOT_ANY : losses.mendingLines(row);
    }

    public int reached(int row) {
        return hasRow(row) ? losses.reachedLines(row) : NONE;
    }

    public int step(int row, int lost, int trial, int i) {
        if (!hasRun(row, lost, trial)) {
            return NONE;
        }
        machine.runs(rows.list[row], lost, trial, null);
        return i >= 0 && i < machine.steps ? machine.trace[i] : NONE;
    }

    public int life(int row, int law, int seed) {
        if (!hasRow(row) || law < 0 || law > 3) {
            return NONE;
        }
        return losses.lifeBy(row, law, seed);
    }

    public int soonest(int row) {
        if (!hasRow(row)) {
            return NONE;
        }
        return isSmall(row) ? orders.fewestThatBreak(row) : NOT_ANY;
    }

    public long ways(int row, int k) {
        if (!hasRow(row) || k < 0 || k > rows.list[row].size) {
            return NONE;
        }
        return isSmall(row) ? orders.waysOf(row, k) : NOT_ANY;
    }

    public long mean(int row, boolean below) {
        if (!hasRow(row)) {
            return NONE;
        }
        return isSmall(row) ? orders.meanOf(row, below) : NOT_ANY;
    }

    public int core(int row, int what) {
        if (!hasRow(row) || what < 0 || what > 1) {
            return NONE;
        }
        if (!isSmall(row)) {
            return NOT_ANY;
        }
        int kept = orders.coreOf(row);
        return what == 0 ? Integer.bitCount(kept) : kept;
    }

    public int does(int row, int lost) {
        if (!hasLost(row, lost)) {
            return NONE;
        }
        return seeker.doesTable(rows.list[row], lost) ? 1 : 0;
    }

    public int sought(int row, int n, int m) {
        return canSeek(row, n, m) ? seeker.seek(row, n, m) : NONE;
    }

    public int soughtAt(int row, int n, int m, int i) {
        if (!canSeek(row, n, m)) {
            return NONE;
        }
        int size = seeker.seek(row, n, m);
        return i >= 0 && i < size && i < MOST_SOUGHT ? seeker.numbers[i] : NONE;
    }

    public int put(int row, int line, int at) {
        if (!hasLine(row, line)) {
            return NONE;
        }
        Row changed = rows.list[row];
        if (changed.size >= MOST_LINES || at < 0 || at > changed.size) {
            return NONE;
        }
        changed.insert(changed.lines[line], at);
        rows.seenSize = 0;
        rowsChanged();
        return changed.size;
    }

    public int take(int row, int line) {
        if (!hasLine(row, line)) {
            return NONE;
        }
        rows.list[row].remove(line);
        rows.seenSize = 0;
        rowsChanged();
        return rows.list[row].size;
    }

    public int see(int row, int trial, int lost) {
        if (!hasRun(row, lost, trial) || rows.seenSize >= MOST_SEEN) {
            return NONE;
        }
        if (rows.seenSize > 0 && rows.seenRow != row) {
            return NONE;
        }
        int number = rows.seenSize;
        rows.seenRow = row;
        rows.seenTrials[number] = trial;
        rows.seenLost[number] = lost;
        rows.seenSize = number + 1;
        return number;
    }

    public int forget() {
        int were = rows.seenSize;
        rows.seenSize = 0;
        return were;
    }

    public int suspects(int row, int n, int k) {
        return canSuspect(row, n, k) ? suspicion.narrow(row, n, k) : NONE;
    }

    public int suspect(int row, int n, int k, int i) {
        if (!canSuspect(row, n, k)) {
            return NONE;
        }
        int size = suspicion.narrow(row, n, k);
        return i >= 0 && i < size ? suspicion.sets[suspicion.left[i]] : NONE;
    }

    public int next(int row, int n, int k) {
        return canSuspect(row, n, k) ? suspicion.bestTrial(row, n, k) : NONE;
    }

    public int most(int row, int n, int k) {
        return canSuspect(row, n, k) ? suspicion.fewestTrials(row, n, k) : NONE;
    }

    public boolean hold(int slot) {
        if (slot < 0 || slot >= MOST_SLOTS) {
            return false;
        }
        slots[slot].copy(rows);
        held[slot] = true;
        return true;
    }

    public boolean restore(int slot) {
        if (slot < 0 || slot >= MOST_SLOTS || !held[slot]) {
            return false;
        }
        rows.copy(slots[slot]);
        rowsChanged();
        return true;
    }

    public int count(int what) {
        switch (what) {
            case 0:
                return rows.size;
            case 1:
                return trials.size;
            case 2:
                return trials.tableSize();
            case 3:
                return trials.fuel;
            case 4:
                return rows.seenSize;
            case 5:
                return tokens.length;
            case 6:
                return heldSlots();
            default:
                return numbersOf(what);
        }
    }

    private int heldSlots() {
        int sum = 0;
        for (int i = 0; i < MOST_SLOTS; i++) {
            if (held[i]) {
                sum++;
            }
        }
        return sum;
    }

    private int numbersOf(int what) {
        if (what >= 10 && hasTrial(what - 10)) {
            return trials.sizes[what - 10];
        }
        if (what >= 20 && hasTrial(what - 20)) {
            return trials.inTable[what - 20] ? trials.gives[what - 20].size : NOT_ANY;
        }
        return NONE;
    }

    /** What was reckoned of the ROWS as they were holds no longer: a ROW may call one that changed. */
    private void rowsChanged() {
        losses.clear();
        orders.clear();
        seeker.clear();
        suspicion.clear();
    }

    private boolean hasRow(int row) {
        return row >= 0 && row < rows.size;
    }

    private boolean hasLine(int row, int line) {
        return hasRow(row) && line >= 0 && line < rows.list[row].size;
    }

    private boolean hasLost(int row, int lost) {
        return hasRow(row) && lost >= 0 && lost < (1 << rows.list[row].size);
    }

    private boolean hasTrial(int trial) {
        return trial >= 0 && trial < trials.size;
    }

    private boolean hasRun(int row, int lost, int trial) {
        return hasLost(row, lost) && hasTrial(trial);
    }

    private boolean isSmall(int row) {
        return rows.list[row].size <= SMALL_ROW;
    }

    private boolean canSeek(int row, int n, int m) {
        return hasRow(row) && n >= 0 && n <= MOST_SOUGHT && m >= 0 && m <= 1;
    }

    private boolean canSuspect(int row, int n, int k) {
        if (!hasRow(row) || n < 0 || n > MOST_TAKEN || k < 0 || k > rows.seenSize) {
            return false;
        }
        return k == 0 || rows.seenRow == row;
    }

    /** The next greater set of as many LINES; the empty one has none, so what comes is above all sets. */
    private static int setBehind(int set) {
        int low = set & -set;
        if (low == 0) {
            return 1 << MOST_LINES;
        }
        int up = set + low;
        return up | (((set ^ up) >>> 2) / low);
    }

    private static int lot(int n, int seed, int which) {
        int h = mixed(mixed(seed, 22), which);
        return n > 0 ? (h >>> 1) % n : 0;
    }

    private static int mixed(int h, int with) {
        int grown = (h ^ with) * 1103515245 + 12345;
        return grown ^ (grown >>> 15);
    }

    /** The tape, and the TOKENS on it. */
    private static final class Tokens {
        final int[] bytes = new int[MOST_BYTES];
        final int[] kinds = new int[MOST_TOKENS + 1];
        final int[] places = new int[MOST_TOKENS + 1];
        final long[] values = new long[MOST_TOKENS + 1];
        int length;
        private final long[] words = new long[MOST_WORDS];

        Tokens() {
            int number = 0;
            for (int i = 0; i < WORDS.length() && number < MOST_WORDS; i++) {
                if (WORDS.charAt(i) == ' ') {
                    number++;
                } else {
                    words[number] = spelled(words[number], WORDS.charAt(i));
                }
            }
        }

        void addInt(int four) {
            for (int shift = 24; shift >= 0 && length < MOST_BYTES; shift -= 8) {
                bytes[length] = (four >>> shift) & 255;
                length++;
            }
        }

        /** The 401st TOKEN is looked at as well: whether it fits tells which FAULT it is. */
        void scan() {
            int at = 0;
            for (int i = 0; i <= MOST_TOKENS; i++) {
                at = scanToken(i, pastBlanks(at));
                if (kinds[i] == END_OF_TEXT || kinds[i] == NO_TOKEN) {
                    return;
                }
            }
        }

        private int scanToken(int i, int at) {
            places[i] = at;
            values[i] = 0;
            if (at >= length) {
                kinds[i] = END_OF_TEXT;
                return at;
            }
            if (isLetter(at)) {
                return scanLetters(i, at);
            }
            return isDigit(at) ? scanDigits(i, at) : scanSign(i, at);
        }

        private int scanLetters(int i, int at) {
            long code = 0;
            int end = at;
            for (; end < length && isLetter(end); end++) {
                code = spelled(code, bytes[end]);
            }
            values[i] = code;
            kinds[i] = end - at > 8 ? NO_TOKEN : A_NAME;
            for (int w = 0; w < MOST_WORDS && kinds[i] == A_NAME; w++) {
                if (words[w] == code) {
                    kinds[i] = WORD + w;
                }
            }
            return end;
        }

        private int scanDigits(int i, int at) {
            int value = 0;
            int end = at;
            for (; end < length && isDigit(end); end++) {
                value = value * 10 + bytes[end] - '0';
            }
            values[i] = value;
            kinds[i] = end - at > 4 ? NO_TOKEN : AN_INT;
            return end;
        }

        private int scanSign(int i, int at) {
            boolean withEqual = at + 1 < length && bytes[at + 1] == '=';
            switch (bytes[at]) {
                case ';':
                    kinds[i] = SEMICOLON;
                    return at + 1;
                case ':':
                    kinds[i] = COLON;
                    return at + 1;
                case '{':
                    kinds[i] = OPENS;
                    return at + 1;
                case '}':
                    kinds[i] = CLOSES;
                    return at + 1;
                case '-':
                    kinds[i] = MINUS;
                    return at + 1;
                case '<':
                    kinds[i] = TEST + (withEqual ? NOT_MORE : LESS);
                    return withEqual ? at + 2 : at + 1;
                case '=':
                    kinds[i] = withEqual ? TEST + EQUAL : NO_TOKEN;
                    return at + 2;
                case '!':
                    kinds[i] = withEqual ? TEST + UNEQUAL : NO_TOKEN;
                    return at + 2;
                default:
                    kinds[i] = NO_TOKEN;
                    return at + 1;
            }
        }

        private int pastBlanks(int from) {
            int at = from;
            while (at < length && isBlank(bytes[at])) {
                at++;
            }
            return at;
        }

        private boolean isLetter(int at) {
            return bytes[at] >= 'a' && bytes[at] <= 'z';
        }

        private boolean isDigit(int at) {
            return bytes[at] >= '0' && bytes[at] <= '9';
        }

        private static boolean isBlank(int sign) {
            return sign == 9 || sign == 10 || sign == 13 || sign == 32;
        }

        /** Eight letters fit into a long, so that names need no texts. */
        private static long spelled(long code, int letter) {
            return code * 27 + (letter - 'a' + 1);
        }
    }

    /** Reads the TOKENS into ROWS and TRIALS of its own, so that a FAULT leaves the told ones alone. */
    private static final class Reader {
        final Rows rows = new Rows();
        final Trials trials = new Trials();
        int fault;
        int faultPlace;
        private final Tokens tokens;
        private final int[] labelPlaces = new int[MOST_LINES];
        private int at;
        private int number;
        private int laterFault;
        private int laterPlace;

        Reader(Tokens tokens) {
            this.tokens = tokens;
        }

        void readTape() {
            tokens.scan();
            rows.clear();
            trials.clear();
            fault = 0;
            laterFault = 0;
            at = 0;
            for (int i = 0; i <= MOST_TOKENS && fault == 0 && tokens.kinds[at] != END_OF_TEXT; i++) {
                switch (tokens.kinds[at] - WORD) {
                    case ROW:
                        rowTold();
                        break;
                    case TRIAL:
                        trialTold();
                        break;
                    case FUEL:
                        fuelTold();
                        break;
                    default:
                        fault = SYNTAX;
                }
            }
            faultPlace = tokens.places[at];
            if (fault == 0) {
                fault = laterFault;
                faultPlace = laterPlace;
            }
        }

        /** A refused TOKEN is not passed, so the place of SYNTAX and ROOM is where the reader stays. */
        private boolean accept(int kind) {
            if (tokens.kinds[at] != kind) {
                fault = SYNTAX;
            } else if (at >= MOST_TOKENS) {
                fault = ROOM;
            } else {
                at++;
            }
            return fault == 0;
        }

        private boolean refuse(int kindOfFault) {
            fault = kindOfFault;
            return false;
        }

        /** FAULTS that count only if the whole text has neither SYNTAX nor ROOM. */
        private void note(int kindOfFault, int place) {
            if (laterFault == 0 || place < laterPlace) {
                laterFault = kindOfFault;
                laterPlace = place;
            }
        }

        private boolean rowTold() {
            if (rows.size >= MOST_ROWS) {
                return refuse(ROOM);
            }
            Row row = rows.list[rows.size];
            row.size = 0;
            if (!accept(WORD + ROW)) {
                return false;
            }
            row.name = tokens.values[at];
            int place = tokens.places[at];
            if (!accept(A_NAME) || !accept(OPENS)) {
                return false;
            }
            if (rows.named(row.name) >= 0) {
                note(TWICE, place);
            }
            for (int i = 0; i <= MOST_LINES && tokens.kinds[at] != CLOSES; i++) {
                if (!lineTold(row)) {
                    return false;
                }
            }
            checkLabels(row);
            rows.size++;
            return accept(CLOSES);
        }

        private void checkLabels(Row row) {
            for (int i = 0; i < row.size; i++) {
                Line line = row.lines[i];
                if ((line.order == GO || line.order == IF) && row.where(line.label, 0) < 0) {
                    note(NAME, labelPlaces[i]);
                }
            }
        }

        private boolean lineTold(Row row) {
            int first = at;
            boolean isNamed = tokens.kinds[at] == A_NAME;
            if (!isNamed && !isOrder(tokens.kinds[at])) {
                return refuse(SYNTAX);
            }
            if (row.size >= MOST_LINES) {
                return refuse(ROOM);
            }
            Line line = new Line();
            if (isNamed) {
                line.name = tokens.values[at];
                if (!accept(A_NAME) || !accept(COLON)) {
                    return false;
                }
            }
            if (!orderTold(line, row.size)) {
                return false;
            }
            line.tokens = at - first;
            row.insert(line, row.size);
            return accept(SEMICOLON);
        }

        private static boolean isOrder(int kind) {
            return kind >= WORD + SET && kind <= WORD + SKIP;
        }

        private boolean orderTold(Line line, int lineNumber) {
            if (!isOrder(tokens.kinds[at])) {
                return refuse(SYNTAX);
            }
            line.order = tokens.kinds[at] - WORD;
            if (!accept(tokens.kinds[at])) {
                return false;
            }
            switch (line.order) {
                case OUT:
                    return valueTold(line, false);
                case GO:
                    return labelTold(line, lineNumber);
                case IF:
                    return valueTold(line, true) && testTold(line)
                        && valueTold(line, false) && labelTold(line, lineNumber);
                case CALL:
                    return calledTold(line);
                case END:
                case SKIP:
                    return true;
                default:
                    return counterTold(line) && valueTold(line, false);
            }
        }

        private boolean counterTold(Line line) {
            int word = tokens.kinds[at] - WORD;
            if (word < KA || word > KD) {
                return refuse(SYNTAX);
            }
            line.counter = word - KA;
            return accept(WORD + word);
        }

        private boolean valueTold(Line line, boolean isFirstOfTwo) {
            int word = tokens.kinds[at] - WORD;
            int kind = A_NUMBER;
            if (word >= KA && word <= KD) {
                kind = A_COUNTER;
                number = word - KA;
            } else if (word == IN) {
                kind = FROM_TRIAL;
                number = 0;
            }
            if (kind == A_NUMBER ? !numberTold() : !accept(WORD + word)) {
                return false;
            }
            if (isFirstOfTwo) {
                line.firstKind = kind;
                line.first = number;
            } else {
                line.kind = kind;
                line.value = number;
            }
            return true;
        }

        private boolean numberTold() {
            boolean isBelow = tokens.kinds[at] == MINUS;
            if (isBelow && !accept(MINUS)) {
                return false;
            }
            int value = (int) tokens.values[at];
            number = isBelow ? -value : value;
            return accept(AN_INT);
        }

        private boolean testTold(Line line) {
            int test = tokens.kinds[at] - TEST;
            if (test < EQUAL || test > NOT_MORE) {
                return refuse(SYNTAX);
            }
            line.test = test;
            return accept(TEST + test);
        }

        private boolean labelTold(Line line, int lineNumber) {
            line.label = tokens.values[at];
            if (lineNumber >= 0 && lineNumber < MOST_LINES) {
                labelPlaces[lineNumber] = tokens.places[at];
            }
            return accept(A_NAME);
        }

        private boolean calledTold(Line line) {
            int place = tokens.places[at];
            line.called = rows.named(tokens.values[at]);
            if (!accept(A_NAME)) {
                return false;
            }
            if (line.called < 0) {
                note(NAME, place);
            }
            return true;
        }

        private boolean trialTold() {
            if (trials.size >= MOST_TRIALS) {
                return refuse(ROOM);
            }
            int trial = trials.size;
            trials.inTable[trial] = false;
            if (!accept(WORD + TRIAL)) {
                return false;
            }
            trials.sizes[trial] = numbersTold(trials.numbers[trial]);
            if (fault == 0 && tokens.kinds[at] == WORD + GIVES && accept(WORD + GIVES)) {
                trials.inTable[trial] = true;
                trials.gives[trial].begin();
                trials.gives[trial].size = numbersTold(trials.gives[trial].numbers);
            }
            trials.size++;
            return fault == 0 && accept(SEMICOLON);
        }

        private int numbersTold(int[] into) {
            int size = 0;
            for (int i = 0; i <= into.length && fault == 0 && isNumber(tokens.kinds[at]); i++) {
                if (size >= into.length) {
                    fault = ROOM;
                } else if (numberTold()) {
                    into[size] = number;
                    size++;
                }
            }
            return size;
        }

        private static boolean isNumber(int kind) {
            return kind == MINUS || kind == AN_INT;
        }

        private boolean fuelTold() {
            if (!accept(WORD + FUEL)) {
                return false;
            }
            int value = (int) tokens.values[at];
            int place = tokens.places[at];
            if (!accept(AN_INT) || !accept(SEMICOLON)) {
                return false;
            }
            if (value < 1 || value > MOST_FUEL) {
                note(WRONG, place);
            } else {
                trials.fuel = value;
            }
            return true;
        }
    }

    /** A LINE as it was told; nothing changes it, so that copies and SLOTS may share it. */
    private static final class Line {
        long name;
        int order;
        int tokens;
        int counter;
        int kind;
        int value;
        int firstKind;
        int first;
        int test;
        long label;
        int called;
    }

    /** A ROW: its LINES as they stand now. */
    private static final class Row {
        final Line[] lines = new Line[MOST_LINES];
        int size;
        int number;
        long name;

        void copy(Row other) {
            size = other.size;
            number = other.number;
            name = other.name;
            for (int i = 0; i < size; i++) {
                lines[i] = other.lines[i];
            }
        }

        void insert(Line line, int at) {
            if (size >= MOST_LINES || at < 0 || at > size) {
                return;
            }
            for (int i = size; i > at; i--) {
                lines[i] = lines[i - 1];
            }
            lines[at] = line;
            size++;
        }

        void remove(int at) {
            if (at < 0 || at >= size) {
                return;
            }
            size--;
            for (int i = at; i < size; i++) {
                lines[i] = lines[i + 1];
            }
        }

        /** The first LINE of that NAME that is there. */
        int where(long label, int lost) {
            for (int i = 0; i < size; i++) {
                if (lines[i].name == label && ((lost >>> i) & 1) == 0) {
                    return i;
                }
            }
            return NONE;
        }
    }

    /** All that a SLOT holds: ROWS and what is SEEN. */
    private static final class Rows {
        final Row[] list = new Row[MOST_ROWS];
        int size;
        final int[] seenTrials = new int[MOST_SEEN];
        final int[] seenLost = new int[MOST_SEEN];
        int seenSize;
        int seenRow;

        Rows() {
            for (int i = 0; i < MOST_ROWS; i++) {
                list[i] = new Row();
                list[i].number = i;
            }
        }

        void clear() {
            size = 0;
            seenSize = 0;
        }

        void copy(Rows other) {
            size = other.size;
            for (int i = 0; i < size; i++) {
                list[i].copy(other.list[i]);
            }
            seenSize = other.seenSize;
            seenRow = other.seenRow;
            for (int i = 0; i < seenSize; i++) {
                seenTrials[i] = other.seenTrials[i];
                seenLost[i] = other.seenLost[i];
            }
        }

        int named(long name) {
            for (int i = 0; i < size; i++) {
                if (list[i].name == name) {
                    return i;
                }
            }
            return NONE;
        }
    }

    /** The TRIALS, the TABLE among them, and the FUEL. */
    private static final class Trials {
        final int[][] numbers = new int[MOST_TRIALS][MOST_IN];
        final int[] sizes = new int[MOST_TRIALS];
        final Deed[] gives = new Deed[MOST_TRIALS];
        final boolean[] inTable = new boolean[MOST_TRIALS];
        int size;
        int fuel = FUEL_UNTOLD;

        Trials() {
            for (int i = 0; i < MOST_TRIALS; i++) {
                gives[i] = new Deed();
            }
        }

        void clear() {
            size = 0;
            fuel = FUEL_UNTOLD;
        }

        void copy(Trials other) {
            size = other.size;
            fuel = other.fuel;
            for (int t = 0; t < size; t++) {
                sizes[t] = other.sizes[t];
                inTable[t] = other.inTable[t];
                for (int i = 0; i < sizes[t]; i++) {
                    numbers[t][i] = other.numbers[t][i];
                }
                gives[t].copy(other.gives[t]);
            }
        }

        int tableSize() {
            int sum = 0;
            for (int t = 0; t < size; t++) {
                if (inTable[t]) {
                    sum++;
                }
            }
            return sum;
        }
    }

    /** What a RUN DOES: how it stops, and the OUTPUT. */
    private static final class Deed {
        final int[] numbers = new int[MOST_OUT];
        int size;
        int stop;
        /** Bits of the LINES that it came to: losing others alone changes nothing. */
        int met;

        void begin() {
            size = 0;
            stop = OVER;
            met = 0;
        }

        void copy(Deed other) {
            size = other.size;
            stop = other.stop;
            met = other.met;
            for (int i = 0; i < size; i++) {
                numbers[i] = other.numbers[i];
            }
        }

        boolean isLike(Deed other) {
            if (stop != other.stop || size != other.size) {
                return false;
            }
            for (int i = 0; i < size; i++) {
                if (numbers[i] != other.numbers[i]) {
                    return false;
                }
            }
            return true;
        }
    }

    /** Runs a ROW; what came of the latest RUN stays in its fields. */
    private static final class Machine {
        final Deed deed = new Deed();
        final int[] counters = new int[COUNTERS];
        final int[] trace = new int[MOST_FUEL];
        int steps;
        int done;
        /** The last LINE whose words the RUN depended on; rows that are alike up to it run alike. */
        int deepest;
        private final Rows rows;
        private final Trials trials;
        // A ROW calls only ROWS told ahead of it, so that there are never more open than there are ROWS.
        private final Row[] open = new Row[MOST_ROWS];
        private final int[] nextLines = new int[MOST_ROWS];
        private int depth;
        private int lost;
        private int trial;
        private int taken;
        private Deed aim;

        Machine(Rows rows, Trials trials) {
            this.rows = rows;
            this.trials = trials;
        }

        /** With an aim the RUN is given up as soon as its OUTPUT cannot become the aim's. */
        void runs(Row row, int lostLines, int inTrial, Deed toward) {
            begin(row, lostLines, inTrial, toward);
            for (int i = 0; i <= MOST_FUEL; i++) {
                if (!comesToLine()) {
                    deed.stop = OVER;
                    return;
                }
                if (i >= trials.fuel || i >= MOST_FUEL) {
                    deed.stop = TIRED;
                    return;
                }
                if (!doesLine()) {
                    return;
                }
            }
        }

        private void begin(Row row, int lostLines, int inTrial, Deed toward) {
            deed.begin();
            for (int i = 0; i < COUNTERS; i++) {
                counters[i] = 0;
            }
            steps = 0;
            done = 0;
            deepest = NONE;
            open[0] = row;
            nextLines[0] = 0;
            depth = 0;
            lost = lostLines;
            trial = inTrial;
            taken = 0;
            aim = toward;
        }

        /** Goes on to the LINE that is to be done, out of the ROWS that are over; false: all are. */
        private boolean comesToLine() {
            for (; depth > 0; depth--) {
                if (nextLines[depth] < open[depth].size) {
                    return true;
                }
            }
            int at = nextLines[0];
            while (at < open[0].size && ((lost >>> at) & 1) != 0) {
                at++;
            }
            nextLines[0] = at;
            if (at >= open[0].size) {
                return false;
            }
            deed.met |= 1 << at;
            deepest = Math.max(deepest, at);
            return true;
        }

        private boolean doesLine() {
            Row row = open[depth];
            int at = nextLines[depth];
            Line line = row.lines[at];
            trace[steps] = STEP_OF_ROW * row.number + at;
            steps++;
            if (depth == 0) {
                done |= 1 << at;
            }
            nextLines[depth] = at + 1;
            switch (line.order) {
                case OUT:
                    return putsOut(valueOf(line.kind, line.value));
                case GO:
                    jump(row.where(line.label, depth == 0 ? lost : 0));
                    return true;
                case IF:
                    int first = valueOf(line.firstKind, line.first);
                    if (holds(line.test, first, valueOf(line.kind, line.value))) {
                        jump(row.where(line.label, depth == 0 ? lost : 0));
                    }
                    return true;
                case CALL:
                    enter(line.called);
                    return true;
                case END:
                    nextLines[depth] = row.size;
                    return true;
                case SKIP:
                    return true;
                default:
                    return reckons(line, valueOf(line.kind, line.value));
            }
        }

        private int valueOf(int kind, int value) {
            if (kind == A_NUMBER) {
                return value;
            }
            if (kind == A_COUNTER) {
                return counters[value];
            }
            if (taken >= trials.sizes[trial]) {
                return 0;
            }
            taken++;
            return trials.numbers[trial][taken - 1];
        }

        private static boolean holds(int test, int first, int second) {
            switch (test) {
                case EQUAL:
                    return first == second;
                case UNEQUAL:
                    return first != second;
                case LESS:
                    return first < second;
                default:
                    return first <= second;
            }
        }

        /** That no LINE has the NAME depends on all of them. */
        private void jump(int to) {
            int lookedAt = to < 0 ? open[depth].size - 1 : to;
            if (depth == 0 && lookedAt > deepest) {
                deepest = lookedAt;
            }
            if (to >= 0) {
                nextLines[depth] = to;
            }
        }

        private void enter(int called) {
            if (called >= 0 && called < rows.size && depth + 1 < MOST_ROWS) {
                depth++;
                open[depth] = rows.list[called];
                nextLines[depth] = 0;
            }
        }

        private boolean putsOut(int number) {
            if (deed.size >= MOST_OUT) {
                deed.stop = FULL;
                return false;
            }
            if (aim != null && (deed.size >= aim.size || aim.numbers[deed.size] != number)) {
                deed.stop = UNLIKE_AIM;
                return false;
            }
            deed.numbers[deed.size] = number;
            deed.size++;
            return true;
        }

        private boolean reckons(Line line, int value) {
            int c = line.counter;
            switch (line.order) {
                case SET:
                    counters[c] = value;
                    return true;
                case ADD:
                    counters[c] += value;
                    return true;
                case SUB:
                    counters[c] -= value;
                    return true;
                case MUL:
                    counters[c] *= value;
                    return true;
                default:
                    if (value == 0) {
                        deed.stop = BY_ZERO;
                        return false;
                    }
                    counters[c] /= value;
                    return true;
            }
        }
    }

    /** What lost LINES change. */
    private static final class Losses {
        private final Rows rows;
        private final Trials trials;
        private final Machine machine;
        private final Deed[] whole = new Deed[MOST_ROWS * MOST_TRIALS];
        private final int[] reachedIn = new int[MOST_ROWS];
        private final boolean[] isKnown = new boolean[MOST_ROWS];
        private final Row doubled = new Row();

        Losses(Rows rows, Trials trials, Machine machine) {
            this.rows = rows;
            this.trials = trials;
            this.machine = machine;
            for (int i = 0; i < whole.length; i++) {
                whole[i] = new Deed();
            }
        }

        void clear() {
            for (int i = 0; i < MOST_ROWS; i++) {
                isKnown[i] = false;
            }
        }

        /** What the whole ROW DOES is asked for again and again, so it is kept until ROWS change. */
        private void know(int row) {
            if (isKnown[row]) {
                return;
            }
            reachedIn[row] = 0;
            for (int t = 0; t < trials.size; t++) {
                machine.runs(rows.list[row], 0, t, null);
                whole[row * MOST_TRIALS + t].copy(machine.deed);
                reachedIn[row] |= machine.done;
            }
            isKnown[row] = true;
        }

        private boolean isOther(int row, int lost, int trial) {
            Deed was = whole[row * MOST_TRIALS + trial];
            if ((was.met & lost) == 0) {
                return false;
            }
            machine.runs(rows.list[row], lost, trial, was);
            return !machine.deed.isLike(was);
        }

        int firstOther(int row, int lost) {
            know(row);
            for (int t = 0; t < trials.size; t++) {
                if (isOther(row, lost, t)) {
                    return t;
                }
            }
            return NOT_ANY;
        }

        int firstBroken(int row, int n) {
            int limit = 1 << rows.list[row].size;
            int set = (1 << n) - 1;
            for (int i = 0; i < limit && set < limit; i++) {
                if (firstOther(row, set) != NOT_ANY) {
                    return set;
                }
                set = setBehind(set);
            }
            return NOT_ANY;
        }

        int idleLines(int row) {
            int bits = 0;
            for (int i = 0; i < rows.list[row].size; i++) {
                if (firstOther(row, 1 << i) == NOT_ANY) {
                    bits |= 1 << i;
                }
            }
            return bits;
        }

        int harmOf(int row, int line) {
            know(row);
            int sum = 0;
            for (int t = 0; t < trials.size; t++) {
                if (isOther(row, 1 << line, t)) {
                    sum++;
                }
            }
            return sum;
        }

        int worstLine(int row) {
            int worst = NOT_ANY;
            int greatest = NONE;
            for (int i = 0; i < rows.list[row].size; i++) {
                int harm = harmOf(row, i);
                if (harm > greatest) {
                    greatest = harm;
                    worst = i;
                }
            }
            return worst;
        }

        int firstPair(int row) {
            int idle = idleLines(row);
            for (int i = 0; i < MOST_LINES; i++) {
                for (int j = i + 1; j < MOST_LINES; j++) {
                    int both = (1 << i) | (1 << j);
                    if ((idle & both) == both && firstOther(row, both) != NOT_ANY) {
                        return 100 * i + j;
                    }
                }
            }
            return NOT_ANY;
        }

        /** With either of the two lost the ROW is as it was, so only both of them need a look. */
        int mendingLines(int row) {
            know(row);
            Row was = rows.list[row];
            int bits = 0;
            for (int i = 0; i < was.size; i++) {
                doubled.copy(was);
                doubled.insert(was.lines[i], i + 1);
                if (doubledDoesAlike(row)) {
                    bits |= 1 << i;
                }
            }
            return bits;
        }

        private boolean doubledDoesAlike(int row) {
            for (int t = 0; t < trials.size; t++) {
                Deed was = whole[row * MOST_TRIALS + t];
                machine.runs(doubled, 0, t, was);
                if (!machine.deed.isLike(was)) {
                    return false;
                }
            }
            return true;
        }

        int reachedLines(int row) {
            know(row);
            return reachedIn[row];
        }

        int lifeBy(int row, int law, int seed) {
            int size = rows.list[row].size;
            int lost = 0;
            for (int gone = 0; gone < size; gone++) {
                lost |= 1 << victim(row, law, seed, lost);
                if (firstOther(row, lost) != NOT_ANY) {
                    return gone + 1;
                }
            }
            return size + 1;
        }

        private int victim(int row, int law, int seed, int lost) {
            int gone = Integer.bitCount(lost);
            int left = rows.list[row].size - gone;
            switch (law) {
                case 0:
                    return lineThere(lost, left - 1);
                case 1:
                    return lineThere(lost, 0);
                case 2:
                    return longestThere(rows.list[row], lost);
                default:
                    return lineThere(lost, lot(left, seed, gone));
            }
        }

        private static int lineThere(int lost, int i) {
            int before = 0;
            for (int at = 0; at < MOST_LINES; at++) {
                if (((lost >>> at) & 1) == 0) {
                    if (before == i) {
                        return at;
                    }
                    before++;
                }
            }
            return 0;
        }

        private static int longestThere(Row row, int lost) {
            int longest = 0;
            int tokens = 0;
            for (int i = 0; i < row.size; i++) {
                if (((lost >>> i) & 1) == 0 && row.lines[i].tokens > tokens) {
                    tokens = row.lines[i].tokens;
                    longest = i;
                }
            }
            return longest;
        }
    }

    /** Small ROWS that lose LINES in all orders. */
    private static final class Orders {
        private final Rows rows;
        private final Losses losses;
        private final int[] waysTo = new int[1 << SMALL_ROW];
        private final long[] waysBySize = new long[SMALL_ROW + 1];
        private int waysRow = NONE;
        private int coreRow = NONE;
        private int coreLines;

        Orders(Rows rows, Losses losses) {
            this.rows = rows;
            this.losses = losses;
        }

        void clear() {
            waysRow = NONE;
            coreRow = NONE;
        }

        /** Of the smallest sets that are not SAME all parts are, so any order leads there. */
        int fewestThatBreak(int row) {
            for (int n = 1; n <= rows.list[row].size; n++) {
                if (losses.firstBroken(row, n) != NOT_ANY) {
                    return n;
                }
            }
            return 0;
        }

        private void reckonWays(int row) {
            int size = rows.list[row].size;
            if (waysRow == row || size > SMALL_ROW) {
                return;
            }
            for (int k = 0; k <= SMALL_ROW; k++) {
                waysBySize[k] = 0;
            }
            waysTo[0] = 1;
            waysBySize[0] = 1;
            for (int set = 1; set < (1 << size); set++) {
                int ways = 0;
                for (int last = 0; last < size; last++) {
                    if (((set >>> last) & 1) != 0) {
                        ways += waysTo[set ^ (1 << last)];
                    }
                }
                waysTo[set] = ways > 0 && losses.firstOther(row, set) == NOT_ANY ? ways : 0;
                waysBySize[Integer.bitCount(set)] += waysTo[set];
            }
            waysRow = row;
        }

        long waysOf(int row, int k) {
            reckonWays(row);
            return k >= 0 && k <= SMALL_ROW ? waysBySize[k] : 0;
        }

        long meanOf(int row, boolean below) {
            reckonWays(row);
            int size = Math.min(rows.list[row].size, SMALL_ROW);
            long sum = 0;
            long ordersLeft = 1;
            for (int k = size; k >= 0; k--) {
                sum += waysBySize[k] * ordersLeft;
                if (k > 0) {
                    ordersLeft *= size - k + 1;
                }
            }
            long common = commonDivisor(sum, ordersLeft);
            return (below ? ordersLeft : sum) / Math.max(common, 1);
        }

        private static long commonDivisor(long one, long other) {
            long a = one;
            long b = other;
            for (int i = 0; i < 200 && b != 0; i++) {
                long rest = a % b;
                a = b;
                b = rest;
            }
            return a;
        }

        int coreOf(int row) {
            if (coreRow != row) {
                coreLines = fewestThatDo(row);
                coreRow = row;
            }
            return coreLines;
        }

        private int fewestThatDo(int row) {
            int all = (1 << rows.list[row].size) - 1;
            for (int n = 0; n < rows.list[row].size; n++) {
                int kept = (1 << n) - 1;
                for (int i = 0; i <= all && kept <= all; i++) {
                    if (losses.firstOther(row, all ^ kept) == NOT_ANY) {
                        return kept;
                    }
                    kept = setBehind(kept);
                }
            }
            return all;
        }
    }

    /** Looks for rows that DO the TABLE. */
    private static final class Seeker {
        final int[] numbers = new int[MOST_SOUGHT];
        private final Rows rows;
        private final Trials trials;
        private final Machine machine;
        private final Row candidate = new Row();
        private int keptRow = NONE;
        private int keptN;
        private int keptM;
        private int keptAnswer;

        Seeker(Rows rows, Trials trials, Machine machine) {
            this.rows = rows;
            this.trials = trials;
            this.machine = machine;
        }

        void clear() {
            keptRow = NONE;
        }

        boolean doesTable(Row row, int lost) {
            for (int t = 0; t < trials.size; t++) {
                if (trials.inTable[t]) {
                    machine.runs(row, lost, t, trials.gives[t]);
                    if (!machine.deed.isLike(trials.gives[t])) {
                        return false;
                    }
                }
            }
            return true;
        }

        /** The latest answer is kept, for its LINES are asked for one by one. */
        int seek(int row, int n, int m) {
            if (keptRow == row && keptN == n && keptM == m) {
                return keptAnswer;
            }
            keptRow = row;
            keptN = n;
            keptM = m;
            keptAnswer = NOT_ANY;
            int many = 1;
            for (int size = 0; size <= n && many > 0 && keptAnswer == NOT_ANY; size++) {
                if (many > MOST_CANDIDATES) {
                    keptAnswer = TOO_MANY;
                } else if (findOfSize(rows.list[row], size, m)) {
                    keptAnswer = size;
                }
                many *= rows.list[row].size;
            }
            return keptAnswer;
        }

        private boolean findOfSize(Row source, int size, int m) {
            candidate.number = source.number;
            candidate.size = size;
            for (int i = 0; i < size; i++) {
                numbers[i] = 0;
                candidate.lines[i] = source.lines[0];
            }
            for (int i = 0; i < MOST_CANDIDATES; i++) {
                if (suffices(m)) {
                    return true;
                }
                if (!passOn(source, machine.deepest)) {
                    return false;
                }
            }
            return false;
        }

        private boolean suffices(int m) {
            if (!doesTable(candidate, 0)) {
                return false;
            }
            for (int i = 0; i < candidate.size && m > 0; i++) {
                if (!doesTable(candidate, 1 << i)) {
                    return false;
                }
            }
            return true;
        }

        /** On to the next candidate that is another one up to the LINE at: those between fail alike. */
        private boolean passOn(Row source, int at) {
            for (int i = candidate.size - 1; i >= 0; i--) {
                boolean canGrow = i <= at && numbers[i] + 1 < source.size;
                numbers[i] = canGrow ? numbers[i] + 1 : 0;
                candidate.lines[i] = source.lines[numbers[i]];
                if (canGrow) {
                    return true;
                }
            }
            return false;
        }
    }

    /** What mice may have taken. */
    private static final class Suspicion {
        private static final int RECORD = 2 + MOST_OUT;

        final int[] sets = new int[MOST_SETS];
        final int[] left = new int[MOST_SETS];
        private final Rows rows;
        private final Trials trials;
        private final Machine machine;
        // Of a set and a TRIAL: the first set that DOES the same in it.
        private final int[] groups = new int[MOST_SETS * MOST_TRIALS];
        private final int[] records = new int[MOST_SETS * MOST_TRIALS * RECORD];
        private final boolean[] isGrouped = new boolean[MOST_TRIALS];
        private final int[] sizes = new int[MOST_SETS];
        private final int[][] members = new int[MOST_TRIES + 1][MOST_SETS];
        private int size;
        private int leftSize;
        private int keptRow = NONE;
        private int keptN;

        Suspicion(Rows rows, Trials trials, Machine machine) {
            this.rows = rows;
            this.trials = trials;
            this.machine = machine;
        }

        void clear() {
            keptRow = NONE;
        }

        private void gather(int row, int n) {
            if (keptRow == row && keptN == n) {
                return;
            }
            keptRow = row;
            keptN = n;
            int limit = 1 << rows.list[row].size;
            int set = (1 << n) - 1;
            for (size = 0; size < MOST_SETS && set < limit; size++) {
                sets[size] = set;
                set = setBehind(set);
            }
            for (int t = 0; t < MOST_TRIALS; t++) {
                isGrouped[t] = false;
            }
        }

        private void group(int trial) {
            if (isGrouped[trial]) {
                return;
            }
            for (int c = 0; c < size; c++) {
                machine.runs(rows.list[keptRow], sets[c], trial, null);
                int like = groupOfDeed(trial, c);
                if (like < 0) {
                    keepDeed(c, trial);
                    like = c;
                }
                groups[c * MOST_TRIALS + trial] = like;
            }
            isGrouped[trial] = true;
        }

        private void keepDeed(int c, int trial) {
            int at = (c * MOST_TRIALS + trial) * RECORD;
            records[at] = machine.deed.stop;
            records[at + 1] = machine.deed.size;
            for (int i = 0; i < machine.deed.size; i++) {
                records[at + 2 + i] = machine.deed.numbers[i];
            }
        }

        /** Among the first sets, the one that DOES what the machine did. */
        private int groupOfDeed(int trial, int among) {
            for (int c = 0; c < among; c++) {
                int cell = c * MOST_TRIALS + trial;
                if (groups[cell] == c && isRecorded(cell * RECORD)) {
                    return c;
                }
            }
            return NONE;
        }

        private boolean isRecorded(int at) {
            if (records[at] != machine.deed.stop || records[at + 1] != machine.deed.size) {
                return false;
            }
            for (int i = 0; i < machine.deed.size; i++) {
                if (records[at + 2 + i] != machine.deed.numbers[i]) {
                    return false;
                }
            }
            return true;
        }

        int narrow(int row, int n, int k) {
            gather(row, n);
            leftSize = size;
            for (int i = 0; i < size; i++) {
                left[i] = i;
            }
            for (int j = 0; j < k; j++) {
                int trial = rows.seenTrials[j];
                group(trial);
                machine.runs(rows.list[row], rows.seenLost[j], trial, null);
                keepGroup(trial, groupOfDeed(trial, size));
            }
            return leftSize;
        }

        private void keepGroup(int trial, int group) {
            int kept = 0;
            for (int i = 0; i < leftSize; i++) {
                if (groups[left[i] * MOST_TRIALS + trial] == group) {
                    left[kept] = left[i];
                    kept++;
                }
            }
            leftSize = kept;
        }

        int bestTrial(int row, int n, int k) {
            if (narrow(row, n, k) == 0) {
                return NOT_ANY;
            }
            int best = NOT_ANY;
            int least = MOST_SETS + 1;
            for (int t = 0; t < trials.size; t++) {
                group(t);
                int greatest = greatestGroup(t);
                if (greatest < least) {
                    least = greatest;
                    best = t;
                }
            }
            return best;
        }

        private int greatestGroup(int trial) {
            for (int i = 0; i < size; i++) {
                sizes[i] = 0;
            }
            int greatest = 0;
            for (int i = 0; i < leftSize; i++) {
                int group = groups[left[i] * MOST_TRIALS + trial];
                sizes[group]++;
                greatest = Math.max(greatest, sizes[group]);
            }
            return greatest;
        }

        int fewestTrials(int row, int n, int k) {
            narrow(row, n, k);
            for (int t = 0; t < trials.size; t++) {
                group(t);
            }
            int unlike = gatherUnlike();
            for (int tries = 0; tries <= MOST_TRIES; tries++) {
                if (settles(0, unlike, tries)) {
                    return tries;
                }
            }
            return NOT_ANY;
        }

        /** Of SUSPECTS that no TRIAL tells apart one will do: then a single one left is the end. */
        private int gatherUnlike() {
            int unlike = 0;
            for (int i = 0; i < leftSize; i++) {
                boolean isNew = true;
                for (int j = 0; j < unlike && isNew; j++) {
                    isNew = areToldApart(members[0][j], left[i]);
                }
                if (isNew) {
                    members[0][unlike] = left[i];
                    unlike++;
                }
            }
            return unlike;
        }

        private boolean areToldApart(int one, int other) {
            for (int t = 0; t < trials.size; t++) {
                if (groups[one * MOST_TRIALS + t] != groups[other * MOST_TRIALS + t]) {
                    return true;
                }
            }
            return false;
        }

        private boolean settles(int depth, int many, int tries) {
            if (many <= 1) {
                return true;
            }
            if (tries <= 0 || depth >= MOST_TRIES) {
                return false;
            }
            for (int t = 0; t < trials.size; t++) {
                if (settlesBy(t, depth, many, tries)) {
                    return true;
                }
            }
            return false;
        }

        private boolean settlesBy(int trial, int depth, int many, int tries) {
            for (int i = 0; i < many; i++) {
                int group = groups[members[depth][i] * MOST_TRIALS + trial];
                if (isFirstOfGroup(trial, depth, i)) {
                    int part = split(trial, depth, many, group);
                    if (part == many || !settles(depth + 1, part, tries - 1)) {
                        return false;
                    }
                }
            }
            return true;
        }

        private boolean isFirstOfGroup(int trial, int depth, int i) {
            int group = groups[members[depth][i] * MOST_TRIALS + trial];
            for (int j = 0; j < i; j++) {
                if (groups[members[depth][j] * MOST_TRIALS + trial] == group) {
                    return false;
                }
            }
            return true;
        }

        private int split(int trial, int depth, int many, int group) {
            int part = 0;
            for (int i = 0; i < many; i++) {
                int member = members[depth][i];
                if (groups[member * MOST_TRIALS + trial] == group) {
                    members[depth + 1][part] = member;
                    part++;
                }
            }
            return part;
        }
    }
}
