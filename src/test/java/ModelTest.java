import java.util.ArrayDeque;
import java.util.ArrayList;
import java.util.Arrays;
import java.util.Deque;
import java.util.List;
import java.util.Random;

/**
 * Random runs of calls, each answer compared with that of a model that follows the document's words
 * by brute force: fractions kept exact, LEAST by trying all sets, STRIPS by all threes.
 */
public final class ModelTest {
    static final int BAD = -1, STATE = -2, FULL = -3, NONE = -9;

    /** What the document says, said again without any cleverness. */
    static final class Model {
        record Reading(int time, int value) {
            boolean unknown() { return value == NONE; }
        }

        record State(List<Reading> readings, int promise, int delay) { }

        record Sight(int k, int kept) { }

        record Frac(long up, long low) {
            static Frac of(long up, long low) {
                long a = Math.abs(up), b = low;
                while (b != 0) { long c = a % b; a = b; b = c; }
                return new Frac(up / a, low / a);
            }
            int compare(Frac o) { return Long.compare(up * o.low, o.up * low); }
        }

        StringBuilder text = new StringBuilder();
        State now = new State(List.of(), 5, 14);
        Deque<State> past = new ArrayDeque<>();
        State[] images = new State[2];
        List<Sight> seen = new ArrayList<>();

        int n() { return now.readings().size(); }
        Reading at(int k) { return now.readings().get(k); }
        boolean is(int k) { return k >= 0 && k < n(); }
        boolean known(int k) { return is(k) && !at(k).unknown(); }

        /** Each STRETCH as { first, last }. */
        List<int[]> stretches() {
            List<int[]> all = new ArrayList<>();
            int k = 0;
            while (k < n()) {
                if (!known(k)) { k++; continue; }
                int e = k;
                while (known(e + 1)) e++;
                all.add(new int[] { k, e });
                k = e + 1;
            }
            return all;
        }

        int stretchOf(int k) {
            List<int[]> all = stretches();
            for (int s = 0; s < all.size(); s++) if (k >= all.get(s)[0] && k <= all.get(s)[1]) return s;
            return NONE;
        }

        Frac lineAt(int i, int j, int time) {
            long up = (long) at(i).value() * (at(j).time() - time) + (long) at(j).value() * (time - at(i).time());
            return Frac.of(up, at(j).time() - at(i).time());
        }

        Frac apartOf(int i, int b, int j) {
            Frac line = lineAt(i, j, at(b).time());
            return Frac.of(Math.abs(at(b).value() * line.low() - line.up()), line.low());
        }

        boolean holds(int i, int j, int promise) {
            for (int b = i + 1; b < j; b++) if (apartOf(i, b, j).compare(new Frac(promise, 1)) > 0) return false;
            return true;
        }

        /** For each READING when it is SENT, NONE: not KEPT. */
        int[] door(int promise) {
            int[] sent = new int[n()];
            Arrays.fill(sent, NONE);
            for (int[] s : stretches()) {
                int i = s[0];
                sent[i] = at(i).time();
                while (i < s[1]) {
                    int j = i;
                    while (j + 1 <= s[1] && j + 1 <= i + now.delay() && holds(i, j + 1, promise)) j++;
                    sent[j] = j == s[1] || j == i + now.delay() ? at(j).time() : at(j + 1).time();
                    i = j;
                }
            }
            return sent;
        }

        Frac stripOf(int i, int j) {
            Frac most = new Frac(0, 1);
            for (int a = i; a <= j; a++)
                for (int b = a + 1; b <= j; b++)
                    for (int c = b + 1; c <= j; c++) {
                        Frac d = apartOf(a, b, c);
                        Frac half = Frac.of(d.up(), 2 * d.low());
                        if (half.compare(most) > 0) most = half;
                    }
            return most;
        }

        int[] pieces() {
            int[] piece = new int[n()];
            Arrays.fill(piece, NONE);
            int number = 0;
            for (int[] s : stretches()) {
                int from = s[0];
                while (from <= s[1]) {
                    int to = from;
                    while (to + 1 <= s[1] && stripOf(from, to + 1).compare(new Frac(now.promise(), 1)) <= 0) to++;
                    for (int k = from; k <= to; k++) piece[k] = number;
                    number++;
                    from = to + 1;
                }
            }
            return piece;
        }

        /** All sets with first and last of each STRETCH: the fewest; of several the one that is earliest in order. */
        boolean[] least() {
            boolean[] kept = new boolean[n()];
            for (int[] s : stretches()) {
                int inner = Math.max(0, s[1] - s[0] - 1);
                List<Integer> best = null;
                for (int set = 0; set < 1 << inner; set++) {
                    List<Integer> chosen = new ArrayList<>();
                    chosen.add(s[0]);
                    for (int b = 0; b < inner; b++) if ((set >> b & 1) == 1) chosen.add(s[0] + 1 + b);
                    if (s[1] > s[0]) chosen.add(s[1]);
                    if (best != null && !before(chosen, best)) continue;
                    boolean all = true;
                    for (int m = 0; m + 1 < chosen.size() && all; m++) all = holds(chosen.get(m), chosen.get(m + 1), now.promise());
                    if (all) best = chosen;
                }
                for (int k : best) kept[k] = true;
            }
            return kept;
        }

        static boolean before(List<Integer> a, List<Integer> b) {
            if (a.size() != b.size()) return a.size() < b.size();
            for (int m = 0; m < a.size(); m++) if (!a.get(m).equals(b.get(m))) return a.get(m) < b.get(m);
            return false;
        }

        int type(int letter) {
            if (letter < 0 || letter > 255) return BAD;
            if (text.length() == 120) return FULL;
            text.append((char) letter);
            return text.length();
        }

        int clear() {
            int was = text.length();
            text.setLength(0);
            return was;
        }

        record Token(int place, String word) { }

        List<Token> tokens() {
            List<Token> all = new ArrayList<>();
            int i = 0;
            while (i < text.length()) {
                char c = text.charAt(i);
                if (c == ' ') { i++; continue; }
                int e = i + 1;
                if (c >= '0' && c <= '9') while (e < text.length() && text.charAt(e) >= '0' && text.charAt(e) <= '9') e++;
                all.add(new Token(i, text.substring(i, e)));
                i = e;
            }
            all.add(new Token(text.length(), "END"));
            return all;
        }

        static int number(String word) {
            return word.matches("0|[1-9][0-9]{0,3}") ? Integer.parseInt(word) : -1;
        }

        int readings() {
            List<Reading> all = new ArrayList<>();
            int promise = -1, delay = -1, items = 0;
            String expected = "item";
            String item = "";
            int time = 0;
            for (Token t : tokens()) {
                String w = t.word();
                int value = number(w);
                boolean fine;
                switch (expected) {
                    case "item":
                        if (w.equals("END")) {
                            now = new State(all, promise < 0 ? 5 : promise, delay < 0 ? 14 : delay);
                            past.clear();
                            seen.clear();
                            images = new State[2];
                            text.setLength(0);
                            return items;
                        }
                        fine = w.equals("p") && promise < 0 || w.equals("d") && delay < 0 || (w.equals("r") || w.equals("u")) && all.size() < 14;
                        item = w;
                        expected = w.equals("r") || w.equals("u") ? "time" : "number";
                        break;
                    case "number":
                        fine = item.equals("p") ? value >= 0 && value <= 99 : value >= 1 && value <= 14;
                        if (item.equals("p")) promise = value; else delay = value;
                        expected = ";";
                        break;
                    case "time":
                        fine = value >= 0 && value <= 999 && (all.isEmpty() || all.get(all.size() - 1).time() < value);
                        time = value;
                        if (item.equals("u")) all.add(new Reading(time, NONE));
                        expected = item.equals("u") ? ";" : "value";
                        break;
                    case "value":
                        fine = value >= 0 && value <= 999;
                        all.add(new Reading(time, value));
                        expected = ";";
                        break;
                    default:
                        fine = w.equals(";");
                        items++;
                        expected = "item";
                }
                if (!fine) return -10 - t.place();
            }
            throw new IllegalStateException("the text has an end");
        }

        void change(List<Reading> readings, int promise, int delay) {
            past.addLast(now);
            if (past.size() > 10) past.removeFirst();
            now = new State(List.copyOf(readings), promise, delay);
        }

        int adds(int time, int value) {
            if (value < 0 || value > 999) return BAD;
            return add(time, value);
        }

        int misses(int time) { return add(time, NONE); }

        int add(int time, int value) {
            if (time < 0 || time > 999) return BAD;
            if (n() > 0 && time <= at(n() - 1).time()) return STATE;
            if (n() == 14) return FULL;
            List<Reading> more = new ArrayList<>(now.readings());
            more.add(new Reading(time, value));
            change(more, now.promise(), now.delay());
            return n() - 1;
        }

        int strikes(int k) {
            if (!is(k)) return BAD;
            List<Reading> fewer = new ArrayList<>(now.readings());
            fewer.remove(k);
            change(fewer, now.promise(), now.delay());
            return n();
        }

        int promises(int promise) {
            if (promise < 0 || promise > 99) return BAD;
            int was = now.promise();
            change(now.readings(), promise, now.delay());
            return was;
        }

        int delays(int delay) {
            if (delay < 1 || delay > 14) return BAD;
            int was = now.delay();
            change(now.readings(), now.promise(), delay);
            return was;
        }

        int undo() {
            if (past.isEmpty()) return STATE;
            now = past.removeLast();
            return past.size();
        }

        int reading(int k, int what) {
            if (!is(k) || what < 0 || what > 6) return BAD;
            switch (what) {
                case 0: return at(k).time();
                case 1: return at(k).value();
                case 2: return stretchOf(k);
                case 3: return pieces()[k];
                case 4: return door(now.promise())[k] == NONE ? 0 : 1;
                case 5: return door(now.promise())[k];
                default: return least()[k] ? 1 : 0;
            }
        }

        boolean pair(int i, int j) { return i < j && known(i) && known(j) && stretchOf(i) == stretchOf(j); }

        int apart(int i, int j, int what) {
            if (!pair(i, j) || what < 0 || what > 2) return BAD;
            Frac most = null;
            int which = NONE;
            for (int b = i + 1; b < j; b++) {
                Frac d = apartOf(i, b, j);
                if (most == null || d.compare(most) > 0) { most = d; which = b; }
            }
            if (most == null) return NONE;
            return what == 2 ? which : part(most, what);
        }

        static int part(Frac f, int what) { return (int) (what == 0 ? f.up() : f.low()); }

        int why(int i, int j) {
            if (!pair(i, j)) return BAD;
            for (int b = i + 1; b < j; b++) if (apartOf(i, b, j).compare(new Frac(now.promise(), 1)) > 0) return b;
            return NONE;
        }

        int strip(int i, int j, int what) {
            if (!(pair(i, j) || i == j && known(i)) || what < 0 || what > 1) return BAD;
            return part(stripOf(i, j), what);
        }

        int told(int time, int way, int what) {
            if (time < 0 || time > 999 || way < 0 || way > 1 || what < 0 || what > 1) return BAD;
            boolean[] kept = new boolean[n()];
            if (way == 1) kept = least();
            else for (int k = 0; k < n(); k++) kept[k] = door(now.promise())[k] != NONE;
            for (int[] s : stretches()) {
                for (int i = s[0]; i <= s[1]; i++) {
                    if (!kept[i]) continue;
                    if (at(i).time() == time) return part(new Frac(at(i).value(), 1), what);
                    int j = i + 1;
                    while (j <= s[1] && !kept[j]) j++;
                    if (j <= s[1] && at(i).time() < time && time < at(j).time()) return part(lineAt(i, j, time), what);
                }
            }
            return NONE;
        }

        int sees(int k, int kept) {
            if (!known(k) || kept < 0 || kept > 1) return BAD;
            if (seen.size() == 6) return FULL;
            seen.add(new Sight(k, kept));
            return seen.size();
        }

        int forget() {
            int was = seen.size();
            seen.clear();
            return was;
        }

        List<Integer> possible() {
            List<Integer> all = new ArrayList<>();
            for (int p = 0; p <= 99; p++) {
                int[] sent = door(p);
                boolean so = true;
                for (Sight s : seen) so &= (is(s.k()) && sent[s.k()] != NONE ? 1 : 0) == s.kept();
                if (so) all.add(p);
            }
            return all;
        }

        int unseen(int what) {
            if (what < 0 || what > 2) return BAD;
            List<Integer> all = possible();
            if (what == 0) return all.size();
            if (all.isEmpty()) return NONE;
            return what == 1 ? all.get(0) : all.get(all.size() - 1);
        }

        int ask() {
            List<Integer> all = possible();
            if (all.size() < 2) return NONE;
            int[] tally = new int[n()];
            for (int p : all) {
                int[] sent = door(p);
                for (int k = 0; k < n(); k++) if (sent[k] != NONE) tally[k]++;
            }
            int best = NONE, smallest = 101;
            for (int k = 0; k < n(); k++) {
                int greater = Math.max(tally[k], all.size() - tally[k]);
                if (known(k) && greater < smallest) { smallest = greater; best = k; }
            }
            return best;
        }

        int keep(int image) {
            if (image < 0 || image > 1) return BAD;
            images[image] = now;
            return n();
        }

        int back(int image) {
            if (image < 0 || image > 1) return BAD;
            if (images[image] == null) return STATE;
            now = images[image];
            past.clear();
            return n();
        }

        int late() {
            int[] sent = door(now.promise());
            int most = NONE;
            for (int k = 0; k < n(); k++) {
                if (!known(k)) continue;
                int j = k;
                while (sent[j] == NONE) j++;
                most = Math.max(most, sent[j] - at(k).time());
            }
            return most;
        }

        int count(int what) {
            int total = 0;
            switch (what) {
                case 0: return n();
                case 1: return now.promise();
                case 2: return now.delay();
                case 3: return stretches().size();
                case 4: for (int s : door(now.promise())) total += s == NONE ? 0 : 1; return total;
                case 5: for (int p : pieces()) total = Math.max(total, p + 1); return total;
                case 6: for (boolean b : least()) total += b ? 1 : 0; return total;
                case 7: return late();
                case 8: return seen.size();
                case 9: return text.length();
                case 10: return past.size();
                default: return BAD;
            }
        }
    }

    static int wrong = 0;
    static int faults = 0, landed = 0;

    final Random random;
    final int run;
    ThinReadings x = new ThinReadings();
    Model m = new Model();
    final StringBuilder trace = new StringBuilder();
    int left = 512;
    /** How wide VALUES swing and how far TIMES step in this run: small ones make ties and exact edges. */
    final int swing, stride;

    ModelTest(int run) {
        this.run = run;
        random = new Random(run * 7919L + 17);
        int[] swings = { 1, 3, 8, 20, 60, 150, 400, 999 };
        swing = swings[random.nextInt(swings.length)];
        int[] strides = { 1, 2, 5, 12, 60 };
        stride = strides[random.nextInt(strides.length)];
    }

    int pick(int bound) { return random.nextInt(bound); }

    void due(String call, int got, int want) {
        left--;
        trace.append(call).append(' ').append(got).append('\n');
        if (got == want) return;
        if (wrong++ < 5) System.out.println("run " + run + ": " + call + " answered " + got + ", due is " + want + "\n" + trace);
    }

    /** Mostly a number that may be, now and then one just beyond, or an extreme one. */
    int number(int least, int most) {
        int r = pick(40);
        if (r == 0) return least - 1;
        if (r == 1) return most + 1;
        if (r == 2) return pick(2) == 0 ? Integer.MIN_VALUE : Integer.MAX_VALUE;
        return least + pick(most - least + 1);
    }

    int value() {
        int base = 500 - swing / 2;
        return pick(30) == 0 ? number(0, 999) : Math.max(0, Math.min(999, base + pick(swing + 1)));
    }

    int nextTime() {
        int last = m.n() == 0 ? -1 : m.at(m.n() - 1).time();
        return pick(20) == 0 ? number(0, 999) : last + 1 + pick(stride);
    }

    int promise() { return pick(3) == 0 ? number(0, 99) : number(0, Math.min(99, 1 + swing / 2)); }

    String randomText() {
        StringBuilder b = new StringBuilder();
        int time = pick(stride);
        int items = pick(16);
        boolean p = pick(3) > 0, d = pick(3) == 0;
        for (int k = 0; k < items; k++) {
            if (p && pick(4) == 0) { b.append("p").append(blanks()).append(Math.max(0, Math.min(99, promise()))).append(";"); p = pick(20) == 0; }
            if (d && pick(4) == 0) { b.append("d").append(blanks()).append(1 + pick(14)).append(blanks()).append(";"); d = pick(20) == 0; }
            b.append(blanks());
            if (pick(7) == 0) b.append("u").append(blanks()).append(time);
            else b.append("r").append(blanks()).append(time).append(" ").append(Math.max(0, Math.min(999, value())));
            b.append(blanks()).append(";");
            time += 1 + pick(stride);
            if (pick(60) == 0) time -= 2;
        }
        if (pick(3) == 0 && b.length() > 0) {
            String odd = "pdru;0123456789 x\t00";
            int place = pick(b.length());
            int kind = pick(3);
            if (kind == 0) b.deleteCharAt(place);
            else if (kind == 1) b.insert(place, odd.charAt(pick(odd.length())));
            else b.setCharAt(place, odd.charAt(pick(odd.length())));
        }
        String text = b.toString();
        return text.substring(0, Math.min(text.length(), pick(10) == 0 ? 130 : 120));
    }

    String blanks() { return " ".repeat(pick(8) == 0 ? 1 + pick(2) : 0); }

    void tellText() {
        String text = randomText();
        if (left < text.length() + 40) return;
        due("clear()", x.clear(), m.clear());
        for (int k = 0; k < text.length(); k++) type(text.charAt(k));
        int got = x.readings();
        if (got < 0) faults++; else landed++;
        due("readings()", got, m.readings());
        due("count(9)", x.count(9), m.count(9));
    }

    void type(int letter) { due("type(" + letter + ")", x.type(letter), m.type(letter)); }

    void lookAtAll() {
        if (left < 140) return;
        for (int w = -1; w <= 11; w++) due("count(" + w + ")", x.count(w), m.count(w));
        for (int k = 0; k < m.n(); k++)
            for (int w = 0; w <= 6; w++) due("reading(" + k + ", " + w + ")", x.reading(k, w), m.reading(k, w));
    }

    void change() {
        int a, b;
        switch (pick(9)) {
            case 0: case 1: case 2: a = nextTime(); b = value(); due("adds(" + a + ", " + b + ")", x.adds(a, b), m.adds(a, b)); break;
            case 3: if (pick(2) == 0) { a = nextTime(); due("misses(" + a + ")", x.misses(a), m.misses(a)); } break;
            case 4: a = number(0, Math.max(0, m.n())); due("strikes(" + a + ")", x.strikes(a), m.strikes(a)); break;
            case 5: a = promise(); due("promises(" + a + ")", x.promises(a), m.promises(a)); break;
            case 6: a = number(1, pick(2) == 0 ? 4 : 14); due("delays(" + a + ")", x.delays(a), m.delays(a)); break;
            case 7: if (pick(2) == 0) due("undo()", x.undo(), m.undo()); break;
            default: imaged();
        }
    }

    void imaged() {
        int a = number(0, 1);
        if (pick(2) == 0) due("keep(" + a + ")", x.keep(a), m.keep(a));
        else if (pick(2) == 0) due("back(" + a + ")", x.back(a), m.back(a));
    }

    void query() {
        int i = number(0, Math.max(0, m.n() - 1)), j = number(0, Math.max(0, m.n() - 1)), w, t;
        switch (pick(7)) {
            case 0: w = number(0, 2); due("apart(" + i + ", " + j + ", " + w + ")", x.apart(i, j, w), m.apart(i, j, w)); break;
            case 1: due("why(" + i + ", " + j + ")", x.why(i, j), m.why(i, j)); break;
            case 2: w = number(0, 1); due("strip(" + i + ", " + j + ", " + w + ")", x.strip(i, j, w), m.strip(i, j, w)); break;
            case 3:
                t = m.n() == 0 || pick(6) == 0 ? number(0, 999) : m.at(pick(m.n())).time() + pick(3) - 1;
                int way = number(0, 1);
                w = number(0, 1);
                due("told(" + t + ", " + way + ", " + w + ")", x.told(t, way, w), m.told(t, way, w));
                break;
            case 4: w = number(0, 1); if (pick(3) > 0) due("sees(" + i + ", " + w + ")", x.sees(i, w), m.sees(i, w)); break;
            case 5: w = number(0, 2); due("unseen(" + w + ")", x.unseen(w), m.unseen(w)); break;
            default: if (pick(8) == 0) due("forget()", x.forget(), m.forget()); else due("ask()", x.ask(), m.ask());
        }
    }

    /** SEEN as some hidden PROMISE would have it, asking for the next one each time. */
    void play() {
        if (left < 40 || m.n() == 0) return;
        due("forget()", x.forget(), m.forget());
        int hidden = Math.min(99, pick(1 + swing));
        for (int step = 0; step < 7; step++) {
            int k = m.ask();
            due("ask()", x.ask(), k);
            if (k == NONE) break;
            int kept = m.door(hidden)[k] == NONE ? 0 : 1;
            due("sees(" + k + ", " + kept + ")", x.sees(k, kept), m.sees(k, kept));
            for (int w = 0; w <= 2; w++) due("unseen(" + w + ")", x.unseen(w), m.unseen(w));
        }
    }

    void go() {
        if (pick(2) == 0) tellText();
        while (left > 150) {
            int r = pick(100);
            if (r < 45) change();
            else if (r < 92) query();
            else if (r < 94) lookAtAll();
            else if (r < 96) play();
            else if (r < 97) tellText();
            else if (r < 98) type(number(0, 255));
            else if (r < 99) due("readings()", x.readings(), m.readings());
            else { int k = number(0, 13), w = number(0, 6); due("reading(" + k + ", " + w + ")", x.reading(k, w), m.reading(k, w)); }
        }
        lookAtAll();
    }

    public static void main(String[] args) {
        int runs = args.length > 0 ? Integer.parseInt(args[0]) : 400;
        for (int run = 0; run < runs; run++) new ModelTest(run).go();
        if (faults == 0 || landed == 0) { wrong++; System.out.println("no texts of one kind were tried"); }
        System.out.println(wrong == 0 ? "the model agrees: " + landed + " texts read, " + faults + " refused" : wrong + " answers are not as the model's");
        if (wrong != 0) System.exit(1);
    }
}
