import java.io.IOException;
import java.nio.file.Files;
import java.nio.file.Path;
import java.util.ArrayList;
import java.util.List;
import java.util.function.Function;
import java.util.function.Supplier;
import java.util.function.ToIntFunction;

/** What the tests of the document's bounds share: the sentence that is tested, what is due by it, what a refused call leaves. */
class Check {
    static final int BAD = -1, STATE = -2, FULL = -3, NONE = -9;
    static final int LEAST_INT = Integer.MIN_VALUE, MOST_INT = Integer.MAX_VALUE;
    private static final int MOST_PRINTED = 40;
    private static final Path DOCUMENT = Path.of("../shared/DOC.md");

    private static int wrong = 0;
    private static int dues = 0;
    private static int sentences = 0;
    private static String sentence = "";
    private static String document = null;

    /** The document's own words: a quotation that isn't there is a fault, so that tests and document can't drift apart. */
    static void says(String words) {
        sentence = words;
        sentences++;
        if (document == null) document = readDocument();
        if (!document.isEmpty() && !document.contains(plain(words))) wrong("the document does not say so");
    }

    private static String readDocument() {
        try {
            return Files.isReadable(DOCUMENT) ? plain(Files.readString(DOCUMENT)) : "";
        } catch (IOException e) {
            return "";
        }
    }

    private static String plain(String text) { return text.replace("`", "").replaceAll("\\s+", " ").trim(); }

    private static void wrong(String what) {
        wrong++;
        if (wrong <= MOST_PRINTED) System.out.println("[" + sentence + "] " + what);
    }

    /** What the latest call of a run answered, and what is due. */
    static void due(Run x, int got, int want) {
        dues++;
        if (got != want) wrong(x.last() + " answered " + got + ", due is " + want + "; the run: " + x.story());
    }

    static void same(String what, String got, String want) {
        dues++;
        if (!got.equals(want)) wrong(what + ":\n  " + got + "\ndue is\n  " + want);
    }

    /** count(0), count(1), .. */
    static void counts(Run x, int... wants) {
        for (int w = 0; w < wants.length; w++) due(x, x.count(w), wants[w]);
    }

    /** reading(0, what), reading(1, what), .., of all READINGS. */
    static void row(Run x, int what, int... wants) {
        due(x, x.count(0), wants.length);
        for (int k = 0; k < wants.length; k++) due(x, x.reading(k, what), wants[k]);
    }

    static void apart(Run x, int i, int j, int upper, int lower, int which) {
        due(x, x.apart(i, j, 0), upper);
        due(x, x.apart(i, j, 1), lower);
        due(x, x.apart(i, j, 2), which);
    }

    static void strip(Run x, int i, int j, int upper, int lower) {
        due(x, x.strip(i, j, 0), upper);
        due(x, x.strip(i, j, 1), lower);
    }

    static void told(Run x, int time, int way, int upper, int lower) {
        due(x, x.told(time, way, 0), upper);
        due(x, x.told(time, way, 1), lower);
    }

    static void unseen(Run x, int howMany, int least, int greatest) {
        due(x, x.unseen(0), howMany);
        due(x, x.unseen(1), least);
        due(x, x.unseen(2), greatest);
    }

    /** A text that is read: so many ITEMS, and it is empty then. */
    static Run fine(String text, int items) {
        Run x = new Run();
        due(x, x.tell(text), items);
        due(x, x.count(9), 0);
        return x;
    }

    /** A text that is not read: its FAULT, and it stays. */
    static void fault(String text, int place) {
        Run x = new Run();
        due(x, x.tell(text), -10 - place);
        due(x, x.count(9), text.length());
        counts(x, 0, 5, 14);
    }

    /** A call is refused so, and nothing changes by it. */
    static void refused(Supplier<Run> maker, ToIntFunction<Run> call, int want) {
        Run x = maker.get();
        due(x, call.applyAsInt(x), want);
        changesNothing(maker, call);
    }

    /** Behind the call all that can be asked is as it is on a twin that never had it. */
    static void changesNothing(Supplier<Run> maker, ToIntFunction<Run> call) {
        for (Function<Run, String> look : looks()) {
            Run touched = maker.get();
            call.applyAsInt(touched);
            String name = touched.last();
            same("behind " + name + " there is", look.apply(touched), look.apply(maker.get()));
        }
    }

    /** Ways to look at an object, each on one of its own, as some of them change it. */
    private static List<Function<Run, String>> looks() {
        List<Function<Run, String>> looks = new ArrayList<>();
        looks.add(Check::lookAtAll);
        looks.add(Check::lookAtAllThatCanBeUndone);
        for (int image = 0; image <= 1; image++) {
            int which = image;
            looks.add(x -> x.back(which) + " " + lookAtAll(x));
        }
        looks.add(x -> x.readings() + " " + lookAtAll(x));
        looks.add(x -> x.type(';') + " " + x.readings() + " " + lookAtAll(x));
        looks.add(Check::lookAtSeen);
        return looks;
    }

    static String lookAtAll(Run x) {
        StringBuilder b = new StringBuilder();
        for (int w = 0; w <= 10; w++) b.append(x.count(w)).append(' ');
        int n = x.count(0);
        for (int k = 0; k < n; k++) {
            b.append("| ");
            for (int w = 0; w <= 6; w++) b.append(x.reading(k, w)).append(' ');
        }
        b.append("| ").append(x.apart(0, n - 1, 0)).append(' ').append(x.why(0, n - 1)).append(' ').append(x.strip(0, n - 1, 0));
        for (int way = 0; way <= 1; way++) b.append(' ').append(x.told(2, way, 0)).append(' ').append(x.told(11, way, 1));
        for (int w = 0; w <= 2; w++) b.append(' ').append(x.unseen(w));
        return b.append(' ').append(x.ask()).toString();
    }

    static String lookAtAllThatCanBeUndone(Run x) {
        StringBuilder b = new StringBuilder();
        int left = 0;
        while (left >= 0 && x.callsLeft() > 40) {
            left = x.undo();
            b.append(left).append(": ").append(x.count(1)).append(' ').append(x.count(2)).append(' ');
            int n = x.count(0);
            for (int k = 0; k < n; k++) b.append("| ").append(x.reading(k, 0)).append(' ').append(x.reading(k, 1)).append(' ');
        }
        if (left != STATE) throw new IllegalStateException("a test has too few calls left to undo all");
        return b.toString();
    }

    /** What was SEEN tells itself by what may be at some other PROMISE, DELAY, READINGS. */
    static String lookAtSeen(Run x) {
        StringBuilder b = new StringBuilder();
        for (int delay = 1; delay <= 14; delay++) {
            x.delays(delay);
            for (int w = 0; w <= 2; w++) b.append(x.unseen(w)).append(' ');
            b.append(x.ask()).append(' ');
        }
        b.append(x.strikes(0)).append(' ').append(x.unseen(0)).append(' ').append(x.ask());
        return b.append(' ').append(x.forget()).append(' ').append(x.unseen(0)).toString();
    }

    static void end() {
        System.out.println(wrong == 0 ? sentences + " sentences hold (" + dues + " answers)" : wrong + " answers are not as due");
        if (wrong != 0) System.exit(1);
    }
}
