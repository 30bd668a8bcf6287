/** Readings thinned within a promise: see ../shared/DOC.md for the numbered promises. */
public final class ThinReadings {
    public static final int BAD = -1, STATE = -2, FULL = -3, NONE = -9;

    private static final int MOST_READINGS = 14;
    private static final int MOST_TIME = 999;
    private static final int MOST_VALUE = 999;
    private static final int MOST_PROMISE = 99;
    private static final int MOST_DELAY = 14;
    private static final int FIRST_PROMISE = 5;
    private static final int FIRST_DELAY = 14;
    private static final int MOST_LETTERS = 120;
    private static final int MOST_LETTER = 255;
    private static final int MOST_NUMBER = 9999;
    private static final int MOST_UNDONE = 10;
    private static final int MOST_SEEN = 6;
    private static final int IMAGES = 2;
    private static final int FAULT_BASE = -10;
    /** What stands for the VALUE of an UNKNOWN one: the answer that is due for it. */
    private static final int UNKNOWN = NONE;

    private final Text text;
    private final Parser parser;
    private final Log log;
    private final History history;
    private final Shelf images;
    private final Lines lines;
    private final Thinning thinning;
    private final Seen seen;
    private final Survey survey;
    private final Fraction fraction;

    public ThinReadings() {
        text = new Text();
        parser = new Parser(text);
        log = new Log();
        history = new History();
        images = new Shelf(IMAGES);
        lines = new Lines(log);
        thinning = new Thinning(log, lines);
        seen = new Seen();
        survey = new Survey(log, thinning, seen);
        fraction = new Fraction();
    }

    // ---- readings

    public int type(int letter) {
        if (!isWithin(letter, 0, MOST_LETTER)) {
            return BAD;
        }
        if (text.isFull()) {
            return FULL;
        }
        return text.put((char) letter);
    }

    public int clear() {
        return text.wipe();
    }

    public int readings() {
        int items = parser.parse();
        if (items < 0) {
            return items;
        }
        log.copy(parser.draft);
        text.wipe();
        history.wipe();
        images.wipe();
        seen.wipe();
        outdateAll();
        return items;
    }

    public int adds(int time, int value) {
        if (!isWithin(time, 0, MOST_TIME) || !isWithin(value, 0, MOST_VALUE)) {
            return BAD;
        }
        return appendReading(time, value);
    }

    public int misses(int time) {
        if (!isWithin(time, 0, MOST_TIME)) {
            return BAD;
        }
        return appendReading(time, UNKNOWN);
    }

    public int strikes(int k) {
        if (!log.has(k)) {
            return BAD;
        }
        rememberForUndo();
        log.remove(k);
        return log.size;
    }

    public int promises(int promise) {
        if (!isWithin(promise, 0, MOST_PROMISE)) {
            return BAD;
        }
        rememberForUndo();
        int before = log.promise;
        log.promise = promise;
        return before;
    }

    public int delays(int delay) {
        if (!isWithin(delay, 1, MOST_DELAY)) {
            return BAD;
        }
        rememberForUndo();
        int before = log.delay;
        log.delay = delay;
        return before;
    }

    public int undo() {
        if (history.size == 0) {
            return STATE;
        }
        history.pop(log);
        outdateAll();
        return history.size;
    }

    public int reading(int k, int what) {
        if (!log.has(k)) {
            return BAD;
        }
        thinning.refresh();
        switch (what) {
            case 0: return log.timeAt(k);
            case 1: return log.valueAt(k);
            case 2: return lines.stretchAt(k);
            case 3: return thinning.pieceAt(k);
            case 4: return bitAt(thinning.doorMask, k);
            case 5: return thinning.sentAt(k);
            case 6: return bitAt(thinning.leastMask, k);
            default: return BAD;
        }
    }

    // ---- lines, strips

    public int apart(int i, int j, int what) {
        thinning.refresh();
        if (!isLine(i, j) || !isWithin(what, 0, 2)) {
            return BAD;
        }
        int which = lines.farthest(i, j);
        if (which == NONE || what == 2) {
            return which;
        }
        fraction.assign(lines.offset(i, which, j), lines.span(i, j));
        return fraction.part(what);
    }

    public int why(int i, int j) {
        thinning.refresh();
        if (!isLine(i, j)) {
            return BAD;
        }
        return lines.firstBeyond(i, j, log.promise);
    }

    public int strip(int i, int j, int what) {
        thinning.refresh();
        boolean isOne = i == j && log.isKnown(i);
        if (!(isOne || isLine(i, j)) || !isWithin(what, 0, 1)) {
            return BAD;
        }
        lines.measureStrip(i, j, fraction);
        return fraction.part(what);
    }

    public int told(int time, int way, int what) {
        if (!isWithin(time, 0, MOST_TIME) || !isWithin(way, 0, 1) || !isWithin(what, 0, 1)) {
            return BAD;
        }
        thinning.refresh();
        int mask = way == 0 ? thinning.doorMask : thinning.leastMask;
        int from = log.lastUpTo(time, mask);
        int to = log.firstFrom(time, mask);
        if (!log.isKnown(from) || !log.isKnown(to) || lines.stretchAt(from) != lines.stretchAt(to)) {
            return NONE;
        }
        lines.measureValue(from, to, time, fraction);
        return fraction.part(what);
    }

    // ---- which promise

    public int sees(int k, int kept) {
        if (!log.isKnown(k) || !isWithin(kept, 0, 1)) {
            return BAD;
        }
        if (seen.isFull()) {
            return FULL;
        }
        return seen.put(k, kept);
    }

    public int forget() {
        return seen.wipe();
    }

    public int unseen(int what) {
        if (!isWithin(what, 0, 2)) {
            return BAD;
        }
        thinning.refresh();
        survey.run();
        switch (what) {
            case 0: return survey.possible;
            case 1: return survey.least;
            default: return survey.greatest;
        }
    }

    public int ask() {
        thinning.refresh();
        survey.run();
        return survey.bestReading();
    }

    // ---- images

    public int keep(int image) {
        if (!isWithin(image, 0, IMAGES - 1)) {
            return BAD;
        }
        images.put(image, log);
        return log.size;
    }

    public int back(int image) {
        if (!isWithin(image, 0, IMAGES - 1)) {
            return BAD;
        }
        if (!images.holds(image)) {
            return STATE;
        }
        images.take(image, log);
        history.wipe();
        outdateAll();
        return log.size;
    }

    public int count(int what) {
        thinning.refresh();
        switch (what) {
            case 0: return log.size;
            case 1: return log.promise;
            case 2: return log.delay;
            case 3: return lines.stretches;
            case 4: return Integer.bitCount(thinning.doorMask);
            case 5: return thinning.pieces;
            case 6: return Integer.bitCount(thinning.leastMask);
            case 7: return thinning.longestWait();
            case 8: return seen.size;
            case 9: return text.length;
            case 10: return history.size;
            default: return BAD;
        }
    }

    // ---- helpers of the face

    private int appendReading(int time, int value) {
        if (!log.isLater(time)) {
            return STATE;
        }
        if (log.isFull()) {
            return FULL;
        }
        rememberForUndo();
        return log.append(time, value);
    }

    /** To be called ahead of a change that is not refused: what was can be had back, what was worked out can't stay. */
    private void rememberForUndo() {
        history.push(log);
        outdateAll();
    }

    private void outdateAll() {
        thinning.outdate();
        survey.outdate();
    }

    /** The thinning must be fresh. */
    private boolean isLine(int i, int j) {
        return i < j && log.isKnown(i) && log.isKnown(j) && lines.stretchAt(i) == lines.stretchAt(j);
    }

    private static boolean isWithin(int number, int least, int most) {
        return number >= least && number <= most;
    }

    private static int bitAt(int mask, int k) {
        return (mask >>> k) & 1;
    }

    /** READINGS, PROMISE and DELAY: all that an IMAGE keeps and that can be UNDONE. */
    private static final class Log {
        private final int[] times;
        private final int[] values;
        private int size;
        private int promise;
        private int delay;

        Log() {
            times = new int[MOST_READINGS];
            values = new int[MOST_READINGS];
            size = 0;
            promise = FIRST_PROMISE;
            delay = FIRST_DELAY;
        }

        void startAnew() {
            size = 0;
            promise = FIRST_PROMISE;
            delay = FIRST_DELAY;
        }

        boolean has(int k) {
            return k >= 0 && k < size;
        }

        boolean isKnown(int k) {
            return has(k) && values[k] != UNKNOWN;
        }

        /** Whether k is the first one of a STRETCH. */
        boolean isFirst(int k) {
            return isKnown(k) && !isKnown(k - 1);
        }

        /** Whether k is the last one of a STRETCH. */
        boolean isLast(int k) {
            return isKnown(k) && !isKnown(k + 1);
        }

        int timeAt(int k) {
            return has(k) ? times[k] : NONE;
        }

        int valueAt(int k) {
            return has(k) ? values[k] : NONE;
        }

        boolean isFull() {
            return size >= MOST_READINGS;
        }

        boolean isLater(int time) {
            return size == 0 || time > timeAt(size - 1);
        }

        int append(int time, int value) {
            if (isFull()) {
                return FULL;
            }
            times[size] = time;
            values[size] = value;
            size++;
            return size - 1;
        }

        void remove(int k) {
            if (!has(k)) {
                return;
            }
            for (int m = k; m + 1 < size; m++) {
                times[m] = times[m + 1];
                values[m] = values[m + 1];
            }
            size--;
        }

        /** The last one of a set (a bit each) whose TIME is at or ahead of a TIME. */
        int lastUpTo(int time, int mask) {
            int found = NONE;
            for (int k = 0; k < size; k++) {
                if (bitAt(mask, k) == 1 && times[k] <= time) {
                    found = k;
                }
            }
            return found;
        }

        /** The first one of a set (a bit each) whose TIME is at or behind a TIME. */
        int firstFrom(int time, int mask) {
            for (int k = 0; k < size; k++) {
                if (bitAt(mask, k) == 1 && times[k] >= time) {
                    return k;
                }
            }
            return NONE;
        }

        void copy(Log other) {
            for (int k = 0; k < MOST_READINGS; k++) {
                times[k] = other.times[k];
                values[k] = other.values[k];
            }
            size = other.size;
            promise = other.promise;
            delay = other.delay;
        }
    }

    /** Places for Logs. All are made with the shelf, so that putting one there makes nothing. */
    private static final class Shelf {
        private static final int SIZE_AT = 0;
        private static final int PROMISE_AT = 1;
        private static final int DELAY_AT = 2;
        private static final int TIMES_AT = 3;
        private static final int VALUES_AT = TIMES_AT + MOST_READINGS;
        private static final int ROW = VALUES_AT + MOST_READINGS;

        private final int places;
        private final int[] cells;
        private int filled;

        Shelf(int places) {
            this.places = places;
            cells = new int[places * ROW];
            filled = 0;
        }

        void wipe() {
            filled = 0;
        }

        boolean holds(int place) {
            return place >= 0 && place < places && bitAt(filled, place) == 1;
        }

        void put(int place, Log log) {
            if (place < 0 || place >= places) {
                return;
            }
            int row = place * ROW;
            cells[row + SIZE_AT] = log.size;
            cells[row + PROMISE_AT] = log.promise;
            cells[row + DELAY_AT] = log.delay;
            for (int k = 0; k < MOST_READINGS; k++) {
                cells[row + TIMES_AT + k] = log.times[k];
                cells[row + VALUES_AT + k] = log.values[k];
            }
            filled |= 1 << place;
        }

        void take(int place, Log log) {
            if (!holds(place)) {
                return;
            }
            int row = place * ROW;
            log.size = cells[row + SIZE_AT];
            log.promise = cells[row + PROMISE_AT];
            log.delay = cells[row + DELAY_AT];
            for (int k = 0; k < MOST_READINGS; k++) {
                log.times[k] = cells[row + TIMES_AT + k];
                log.values[k] = cells[row + VALUES_AT + k];
            }
        }
    }

    /** What was ahead of each change that can be UNDONE; a ring, so that the oldest is lost by itself. */
    private static final class History {
        private final Shelf ring;
        private int next;
        private int size;

        History() {
            ring = new Shelf(MOST_UNDONE);
            next = 0;
            size = 0;
        }

        void wipe() {
            size = 0;
        }

        void push(Log log) {
            ring.put(next, log);
            next = next + 1 < MOST_UNDONE ? next + 1 : 0;
            size = Math.min(size + 1, MOST_UNDONE);
        }

        void pop(Log log) {
            if (size == 0) {
                return;
            }
            next = next > 0 ? next - 1 : MOST_UNDONE - 1;
            size--;
            ring.take(next, log);
        }
    }

    /** THE TEXT. */
    private static final class Text {
        private final char[] letters;
        private int length;

        Text() {
            letters = new char[MOST_LETTERS];
            length = 0;
        }

        boolean isFull() {
            return length >= MOST_LETTERS;
        }

        int put(char letter) {
            if (isFull()) {
                return FULL;
            }
            letters[length] = letter;
            length++;
            return length;
        }

        int wipe() {
            int before = length;
            length = 0;
            return before;
        }

        boolean isDigit(int at) {
            return at >= 0 && at < length && letters[at] >= '0' && letters[at] <= '9';
        }

        boolean isBlank(int at) {
            return at >= 0 && at < length && letters[at] == ' ';
        }

        char letterAt(int at) {
            return at >= 0 && at < length ? letters[at] : (char) 0;
        }
    }

    /** Reads THE TEXT into a draft, token by token; it stops at the first token that can't stand there. */
    private static final class Parser {
        private static final int END = 0;
        private static final int NUMBER = 1;
        private static final int ODD = 2;

        private final Text text;
        private final Log draft;
        /** Where the next token is looked for. */
        private int at;
        /** Of the token that was read last: END, NUMBER, ODD, or its letter; its place; its number. */
        private int kind;
        private int place;
        private int number;
        private boolean isPromiseTold;
        private boolean isDelayTold;

        Parser(Text text) {
            this.text = text;
            draft = new Log();
        }

        /** How many ITEMS, or -10 less FAULT. */
        int parse() {
            draft.startAnew();
            at = 0;
            isPromiseTold = false;
            isDelayTold = false;
            for (int items = 0; items <= MOST_LETTERS; items++) {
                readToken();
                boolean isItem = false;
                switch (kind) {
                    case END: return items;
                    case 'p': isItem = isPromiseItem(); break;
                    case 'd': isItem = isDelayItem(); break;
                    case 'r': isItem = isReadingItem(true); break;
                    case 'u': isItem = isReadingItem(false); break;
                    default: break;
                }
                if (!isItem) {
                    return FAULT_BASE - place;
                }
            }
            return FAULT_BASE - place;
        }

        private boolean isPromiseItem() {
            if (isPromiseTold || !isNumber(0, MOST_PROMISE)) {
                return false;
            }
            isPromiseTold = true;
            draft.promise = number;
            return isEnded();
        }

        private boolean isDelayItem() {
            if (isDelayTold || !isNumber(1, MOST_DELAY)) {
                return false;
            }
            isDelayTold = true;
            draft.delay = number;
            return isEnded();
        }

        private boolean isReadingItem(boolean hasValue) {
            if (draft.isFull() || !isNumber(0, MOST_TIME) || !draft.isLater(number)) {
                return false;
            }
            int time = number;
            if (hasValue && !isNumber(0, MOST_VALUE)) {
                return false;
            }
            draft.append(time, hasValue ? number : UNKNOWN);
            return isEnded();
        }

        private boolean isNumber(int least, int most) {
            readToken();
            return kind == NUMBER && isWithin(number, least, most);
        }

        private boolean isEnded() {
            readToken();
            return kind == ';';
        }

        private void readToken() {
            while (at < MOST_LETTERS && text.isBlank(at)) {
                at++;
            }
            place = at;
            if (at >= text.length) {
                kind = END;
            } else if (text.isDigit(at)) {
                readDigits();
            } else {
                kind = kindOf(text.letterAt(at));
                at++;
            }
        }

        private static int kindOf(char letter) {
            switch (letter) {
                case 'p':
                case 'd':
                case 'r':
                case 'u':
                case ';':
                    return letter;
                default:
                    return ODD;
            }
        }

        private void readDigits() {
            number = 0;
            while (at < MOST_LETTERS && text.isDigit(at)) {
                // Beyond the most it stays beyond: more digits could only make it wrap around.
                if (number <= MOST_NUMBER) {
                    number = number * 10 + (text.letterAt(at) - '0');
                }
                at++;
            }
            boolean hasZeroAhead = text.letterAt(place) == '0' && at - place > 1;
            kind = hasZeroAhead || number > MOST_NUMBER ? ODD : NUMBER;
        }
    }

    /** A fraction in least terms, not below 0. */
    private static final class Fraction {
        private int upper;
        private int lower;

        Fraction() {
            upper = 0;
            lower = 1;
        }

        void assign(int upper, int lower) {
            int divisor = commonDivisor(upper, lower);
            if (divisor < 1) {
                return;
            }
            this.upper = upper / divisor;
            this.lower = lower / divisor;
        }

        boolean isBelow(int otherUpper, int otherLower) {
            return (long) upper * otherLower < (long) otherUpper * lower;
        }

        /** 0: the upper number, 1: the lower one. */
        int part(int what) {
            return what == 0 ? upper : lower;
        }

        private static int commonDivisor(int first, int second) {
            int a = first;
            int b = second;
            // Euclid's way ends within 46 steps for any two ints.
            for (int step = 0; step < 64 && b != 0; step++) {
                int rest = a % b;
                a = b;
                b = rest;
            }
            return a;
        }
    }

    /** STRETCHES, and how far READINGS are apart from LINES. */
    private static final class Lines {
        private final Log log;
        private final int[] stretch;
        /** By i * MOST_READINGS + j: the least whole PROMISE by which the LINE of i and j HOLDS. */
        private final int[] needs;
        private int stretches;

        Lines(Log log) {
            this.log = log;
            stretch = new int[MOST_READINGS];
            needs = new int[MOST_READINGS * MOST_READINGS];
            stretches = 0;
        }

        void measureAll() {
            stretches = 0;
            for (int k = 0; k < log.size && k < MOST_READINGS; k++) {
                if (log.isFirst(k)) {
                    stretches++;
                }
                stretch[k] = log.isKnown(k) ? stretches - 1 : NONE;
                measureNeedsFrom(k);
            }
        }

        private void measureNeedsFrom(int i) {
            if (!log.isKnown(i)) {
                return;
            }
            for (int j = i + 1; j < MOST_READINGS && log.isKnown(j); j++) {
                int which = farthest(i, j);
                int span = span(i, j);
                boolean hasNeed = which != NONE && span > 0;
                // Rounded up: a whole PROMISE is enough if and only if it is not below the fraction.
                needs[i * MOST_READINGS + j] = hasNeed ? (offset(i, which, j) + span - 1) / span : 0;
            }
        }

        int stretchAt(int k) {
            return log.has(k) && k < MOST_READINGS ? stretch[k] : NONE;
        }

        /** The least whole PROMISE by which the LINE of two of one STRETCH HOLDS. */
        int needOf(int i, int j) {
            boolean isPair = i >= 0 && i < j && j < MOST_READINGS;
            return isPair ? needs[i * MOST_READINGS + j] : 0;
        }

        int span(int i, int j) {
            return log.timeAt(j) - log.timeAt(i);
        }

        /** By how much k is apart from the LINE of i and j, times span(i, j). */
        int offset(int i, int k, int j) {
            if (!log.has(i) || !log.has(k) || !log.has(j)) {
                return 0;
            }
            int rise = (log.values[k] - log.values[i]) * (log.times[j] - log.times[i]);
            int lineRise = (log.values[j] - log.values[i]) * (log.times[k] - log.times[i]);
            return Math.abs(rise - lineRise);
        }

        /** The first one between i and j that is apart the most from their LINE; NONE: there is none between. */
        int farthest(int i, int j) {
            int which = NONE;
            int most = -1;
            for (int k = i + 1; k < j; k++) {
                int here = offset(i, k, j);
                if (here > most) {
                    most = here;
                    which = k;
                }
            }
            return which;
        }

        /** The first one between i and j that is apart from their LINE by more than a PROMISE; NONE: the LINE HOLDS. */
        int firstBeyond(int i, int j, int promise) {
            int allowed = promise * span(i, j);
            for (int k = i + 1; k < j; k++) {
                if (offset(i, k, j) > allowed) {
                    return k;
                }
            }
            return NONE;
        }

        /** The STRIP of from .. to. */
        void measureStrip(int from, int to, Fraction answer) {
            answer.assign(0, 1);
            for (int a = from; a < to; a++) {
                for (int c = a + 2; c <= to; c++) {
                    int upper = offset(a, farthest(a, c), c);
                    int lower = 2 * span(a, c);
                    if (answer.isBelow(upper, lower)) {
                        answer.assign(upper, lower);
                    }
                }
            }
        }

        /** The VALUE of the LINE of two, or of one (from is to), at a TIME. */
        void measureValue(int from, int to, int time, Fraction answer) {
            if (from == to) {
                answer.assign(log.valueAt(from), 1);
                return;
            }
            int behindFrom = time - log.timeAt(from);
            int aheadOfTo = log.timeAt(to) - time;
            int upper = log.valueAt(from) * aheadOfTo + log.valueAt(to) * behindFrom;
            answer.assign(upper, span(from, to));
        }
    }

    /** DOOR, PIECES and LEAST of the Log as it is NOW; sets of READINGS are masks with a bit for each. */
    private static final class Thinning {
        private final Log log;
        private final Lines lines;
        private final int[] piece;
        private final int[] sent;
        /** For LEAST: how many more are needed behind one, and which is the next. */
        private final int[] steps;
        private final int[] next;
        private boolean isOutdated;
        private int pieces;
        private int doorMask;
        private int leastMask;

        Thinning(Log log, Lines lines) {
            this.log = log;
            this.lines = lines;
            piece = new int[MOST_READINGS];
            sent = new int[MOST_READINGS];
            steps = new int[MOST_READINGS];
            next = new int[MOST_READINGS];
            isOutdated = false;
            pieces = 0;
            doorMask = 0;
            leastMask = 0;
        }

        void outdate() {
            isOutdated = true;
        }

        void refresh() {
            if (!isOutdated) {
                return;
            }
            isOutdated = false;
            lines.measureAll();
            cutPieces();
            doorMask = swingDoor(log.promise);
            sendKept();
            leastMask = chooseLeast();
        }

        int pieceAt(int k) {
            return log.has(k) && k < MOST_READINGS ? piece[k] : NONE;
        }

        int sentAt(int k) {
            return log.has(k) && k < MOST_READINGS ? sent[k] : NONE;
        }

        private void cutPieces() {
            pieces = 0;
            int start = 0;
            for (int k = 0; k < log.size && k < MOST_READINGS; k++) {
                if (log.isFirst(k) || (log.isKnown(k) && !fitsStrip(start, k))) {
                    start = k;
                    pieces++;
                }
                piece[k] = log.isKnown(k) ? pieces - 1 : NONE;
            }
        }

        /** Whether start .. k have a STRIP of PROMISE at most, if those up to the one ahead of k have. */
        private boolean fitsStrip(int start, int k) {
            for (int a = start; a < k; a++) {
                if (lines.needOf(a, k) > 2 * log.promise) {
                    return false;
                }
            }
            return true;
        }

        /** Those that DOOR KEEPS by a PROMISE. The lines must have been measured. */
        int swingDoor(int promise) {
            int mask = 0;
            int from = 0;
            for (int k = 0; k < log.size; k++) {
                if (!log.isKnown(k)) {
                    continue;
                }
                if (log.isFirst(k)) {
                    from = k;
                    mask |= 1 << k;
                    continue;
                }
                if (k - from > log.delay || lines.needOf(from, k) > promise) {
                    from = k - 1;
                    mask |= 1 << from;
                }
                if (log.isLast(k)) {
                    mask |= 1 << k;
                }
            }
            return mask;
        }

        private void sendKept() {
            int from = 0;
            for (int k = 0; k < log.size && k < MOST_READINGS; k++) {
                if (bitAt(doorMask, k) == 0) {
                    sent[k] = NONE;
                    continue;
                }
                boolean isAtOnce = log.isFirst(k) || log.isLast(k) || k - from == log.delay;
                sent[k] = log.timeAt(isAtOnce ? k : k + 1);
                from = k;
            }
        }

        /** LATE. */
        int longestWait() {
            int longest = NONE;
            int sentBehind = NONE;
            for (int k = log.size - 1; k >= 0; k--) {
                if (!log.isKnown(k)) {
                    continue;
                }
                if (bitAt(doorMask, k) == 1) {
                    sentBehind = sentAt(k);
                }
                longest = Math.max(longest, sentBehind - log.timeAt(k));
            }
            return longest;
        }

        private int chooseLeast() {
            for (int k = Math.min(log.size, MOST_READINGS) - 1; k >= 0; k--) {
                chooseNext(k);
            }
            int mask = 0;
            int due = NONE;
            for (int k = 0; k < log.size && k < MOST_READINGS; k++) {
                if (log.isFirst(k) || k == due) {
                    mask |= 1 << k;
                    due = next[k];
                }
            }
            return mask;
        }

        /** Those behind k must have been chosen. Of several that are as good the earliest is the next. */
        private void chooseNext(int k) {
            steps[k] = 0;
            next[k] = NONE;
            if (!log.isKnown(k)) {
                return;
            }
            for (int j = k + 1; j < MOST_READINGS && log.isKnown(j); j++) {
                boolean isBetter = next[k] == NONE || steps[j] + 1 < steps[k];
                if (isBetter && lines.needOf(k, j) <= log.promise) {
                    steps[k] = steps[j] + 1;
                    next[k] = j;
                }
            }
        }
    }

    /** SEEN, by the numbers of READINGS: masks of those KEPT and those not (one can be in both). */
    private static final class Seen {
        private int size;
        private int keptMask;
        private int droppedMask;

        Seen() {
            size = 0;
            keptMask = 0;
            droppedMask = 0;
        }

        boolean isFull() {
            return size >= MOST_SEEN;
        }

        int put(int k, int kept) {
            if (kept == 1) {
                keptMask |= 1 << k;
            } else {
                droppedMask |= 1 << k;
            }
            size++;
            return size;
        }

        int wipe() {
            int before = size;
            size = 0;
            keptMask = 0;
            droppedMask = 0;
            return before;
        }

        boolean agreesWith(int doorMask) {
            return (doorMask & keptMask) == keptMask && (doorMask & droppedMask) == 0;
        }
    }

    /** UNSEEN and ASK: all PROMISES are tried. */
    private static final class Survey {
        private final Log log;
        private final Thinning thinning;
        private final Seen seen;
        /** By PROMISE: those that DOOR would KEEP; kept, as most runs ask several times between changes. */
        private final int[] doorMasks;
        private boolean isOutdated;
        private int possible;
        private int least;
        private int greatest;

        Survey(Log log, Thinning thinning, Seen seen) {
            this.log = log;
            this.thinning = thinning;
            this.seen = seen;
            doorMasks = new int[MOST_PROMISE + 1];
            isOutdated = false;
            possible = 0;
            least = NONE;
            greatest = NONE;
        }

        void outdate() {
            isOutdated = true;
        }

        /** The thinning must be fresh. */
        void run() {
            swingAllDoors();
            possible = 0;
            least = NONE;
            greatest = NONE;
            for (int promise = 0; promise <= MOST_PROMISE; promise++) {
                if (!seen.agreesWith(doorMasks[promise])) {
                    continue;
                }
                possible++;
                least = least == NONE ? promise : least;
                greatest = promise;
            }
        }

        private void swingAllDoors() {
            if (!isOutdated) {
                return;
            }
            isOutdated = false;
            for (int promise = 0; promise <= MOST_PROMISE; promise++) {
                doorMasks[promise] = thinning.swingDoor(promise);
            }
        }

        /** ASK, behind run(). */
        int bestReading() {
            int best = NONE;
            int smallest = possible + 1;
            for (int k = 0; k < log.size && possible > 1; k++) {
                int kept = countKept(k);
                int greaterPart = Math.max(kept, possible - kept);
                if (log.isKnown(k) && greaterPart < smallest) {
                    smallest = greaterPart;
                    best = k;
                }
            }
            return best;
        }

        /** By how many of the possible PROMISES a READING would be KEPT. */
        private int countKept(int k) {
            int kept = 0;
            for (int promise = 0; promise <= MOST_PROMISE; promise++) {
                if (seen.agreesWith(doorMasks[promise])) {
                    kept += bitAt(doorMasks[promise], k);
                }
            }
            return kept;
        }
    }
}
