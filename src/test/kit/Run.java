/** A ThinReadings whose calls are written down and counted: the document promises nothing behind the 512th. */
final class Run {
    private static final int MOST_CALLS = 512;

    private final ThinReadings x = new ThinReadings();
    private final StringBuilder story = new StringBuilder();
    private int calls = 0;
    private String last = "";
    private boolean isTelling = false;

    /** An object that has read a text; a text that is not read is a fault of the test itself. */
    static Run of(String text) {
        Run run = new Run();
        if (run.tell(text) < 0) throw new IllegalArgumentException("the test's own text is not read: " + text);
        return run;
    }

    /** What all the calls so far were and answered. */
    String story() { return story.toString(); }

    /** The latest call. */
    String last() { return last; }

    int callsLeft() { return MOST_CALLS - calls; }

    private int noted(String call, int answer) {
        calls++;
        if (calls > MOST_CALLS) throw new IllegalStateException("a test made more than 512 calls: " + call);
        last = call;
        if (!isTelling) story.append(call).append(' ').append(answer).append("; ");
        return answer;
    }

    private static String call(String name, int... given) {
        StringBuilder b = new StringBuilder(name).append('(');
        for (int k = 0; k < given.length; k++) b.append(k == 0 ? "" : ", ").append(given[k]);
        return b.append(')').toString();
    }

    /** The letters of a text, one by one: how many THE TEXT has then. */
    int types(String text) {
        int answer = 0;
        isTelling = true;
        for (int k = 0; k < text.length(); k++) answer = type(text.charAt(k));
        isTelling = false;
        story.append("type of [").append(text).append("] ").append(answer).append("; ");
        return answer;
    }

    /** A text is told and read. */
    int tell(String text) {
        types(text);
        return readings();
    }

    int type(int letter) { return noted(call("type", letter), x.type(letter)); }
    int clear() { return noted(call("clear"), x.clear()); }
    int readings() { return noted(call("readings"), x.readings()); }
    int adds(int time, int value) { return noted(call("adds", time, value), x.adds(time, value)); }
    int misses(int time) { return noted(call("misses", time), x.misses(time)); }
    int strikes(int k) { return noted(call("strikes", k), x.strikes(k)); }
    int promises(int promise) { return noted(call("promises", promise), x.promises(promise)); }
    int delays(int delay) { return noted(call("delays", delay), x.delays(delay)); }
    int undo() { return noted(call("undo"), x.undo()); }
    int reading(int k, int what) { return noted(call("reading", k, what), x.reading(k, what)); }
    int apart(int i, int j, int what) { return noted(call("apart", i, j, what), x.apart(i, j, what)); }
    int why(int i, int j) { return noted(call("why", i, j), x.why(i, j)); }
    int strip(int i, int j, int what) { return noted(call("strip", i, j, what), x.strip(i, j, what)); }
    int told(int time, int way, int what) { return noted(call("told", time, way, what), x.told(time, way, what)); }
    int sees(int k, int kept) { return noted(call("sees", k, kept), x.sees(k, kept)); }
    int forget() { return noted(call("forget"), x.forget()); }
    int unseen(int what) { return noted(call("unseen", what), x.unseen(what)); }
    int ask() { return noted(call("ask"), x.ask()); }
    int keep(int image) { return noted(call("keep", image), x.keep(image)); }
    int back(int image) { return noted(call("back", image), x.back(image)); }
    int count(int what) { return noted(call("count", what), x.count(what)); }
}
