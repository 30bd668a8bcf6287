import java.util.ArrayList;
import java.util.List;
import java.util.function.Consumer;
import java.util.function.ToIntFunction;

/** Each question, asked first behind each change, is answered as things are NOW: as on an object that was told so at once. */
public final class NowTest extends Check {
    private static final String BEFORE = "p5;d14;r0 0;r10 8;r20 0;r30 40;r40 0;";

    /** A change of BEFORE, and a text that tells what is then. */
    private record Change(String name, Consumer<Run> made, String then) { }

    private static List<Change> changes() {
        List<Change> all = new ArrayList<>();
        all.add(new Change("adds", x -> x.adds(45, 300), BEFORE + "r45 300;"));
        all.add(new Change("misses", x -> x.misses(45), BEFORE + "u45;"));
        all.add(new Change("strikes the first", x -> x.strikes(0), "p5;d14;r10 8;r20 0;r30 40;r40 0;"));
        all.add(new Change("strikes the third", x -> x.strikes(2), "p5;d14;r0 0;r10 8;r30 40;r40 0;"));
        all.add(new Change("promises", x -> x.promises(9), "p9;d14;r0 0;r10 8;r20 0;r30 40;r40 0;"));
        all.add(new Change("delays", x -> x.delays(1), "p5;d1;r0 0;r10 8;r20 0;r30 40;r40 0;"));
        all.add(new Change("undo", x -> { x.promises(30); askAll(x); x.undo(); }, BEFORE));
        all.add(new Change("undo of strikes", x -> { x.strikes(1); askAll(x); x.undo(); }, BEFORE));
        all.add(new Change("back", x -> { x.keep(1); x.strikes(1); x.promises(30); x.delays(2); askAll(x); x.back(1); }, BEFORE));
        all.add(new Change("readings", x -> x.tell("r0 9;u5;r6 0;r7 60;r8 0;"), "r0 9;u5;r6 0;r7 60;r8 0;"));
        return all;
    }

    private static List<ToIntFunction<Run>> questions() {
        List<ToIntFunction<Run>> all = new ArrayList<>();
        for (int k = 0; k < 6; k++) {
            int which = k;
            for (int w = 0; w <= 6; w++) {
                int what = w;
                all.add(x -> x.reading(which, what));
            }
        }
        for (int w = 0; w <= 2; w++) {
            int what = w;
            all.add(x -> x.apart(0, 3, what));
            all.add(x -> x.apart(2, 4, what));
            all.add(x -> x.unseen(what));
            all.add(x -> x.strip(0, 3, what));
            all.add(x -> x.strip(2, 4, what));
            all.add(x -> x.told(7, 0, what));
            all.add(x -> x.told(31, 0, what));
            all.add(x -> x.told(10, 1, what));
            all.add(x -> x.told(31, 1, what));
        }
        all.add(x -> x.why(0, 2));
        all.add(x -> x.why(0, 3));
        all.add(x -> x.why(2, 4));
        all.add(Run::ask);
        for (int w = 0; w <= 9; w++) {
            int what = w;
            all.add(x -> x.count(what));
        }
        return all;
    }

    private static void askAll(Run x) {
        for (ToIntFunction<Run> question : questions()) question.applyAsInt(x);
    }

    private static void asThingsAreNow() {
        says("(As things are NOW; nothing is changed.)");
        List<ToIntFunction<Run>> questions = questions();
        for (Change change : changes()) {
            int others = 0;
            for (ToIntFunction<Run> question : questions) {
                Run x = Run.of(BEFORE);
                askAll(x);
                int before = question.applyAsInt(x);
                change.made().accept(x);
                int now = question.applyAsInt(x);
                // Asked all ahead of it, so that it is not wrong in the same way.
                Run twin = Run.of(change.then());
                askAll(twin);
                due(x, now, question.applyAsInt(twin));
                if (now != before) others++;
            }
            // A change by which no answer is another one would test nothing; undo and back come back to what was.
            boolean isSame = change.then().equals(BEFORE);
            same(change.name() + " has other answers", String.valueOf(others > 0), String.valueOf(!isSame));
        }
    }

    /** With something SEEN, which no change takes away but a text that is read. */
    private static void seenNow() {
        says("(0 .. 99; DELAY as it is NOW)");
        for (Change change : changes()) {
            Run x = Run.of(BEFORE);
            Run twin = Run.of(change.then());
            x.sees(3, 1);
            if (!change.name().equals("readings")) twin.sees(3, 1);
            askAll(x);
            askAll(twin);
            change.made().accept(x);
            for (int what = 0; what <= 2; what++) due(x, x.unseen(what), twin.unseen(what));
            due(x, x.ask(), twin.ask());
        }
    }

    public static void main(String[] args) {
        asThingsAreNow();
        seenNow();
        end();
    }
}
