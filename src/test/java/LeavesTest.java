import java.util.ArrayList;
import java.util.List;
import java.util.function.Function;
import java.util.function.ToIntFunction;

/** Each call that is not refused: what it changes is another then, and all else is as on a twin that never had the call. */
public final class LeavesTest extends Check {
    /** A part of an object, and a way to look at it that sees that part alone. */
    private record Part(String name, Function<Run, String> look) { }

    /** All parts differ from one another, so that one can't be taken for the other; fewer than ten can be UNDONE. */
    private static Run state() {
        Run x = Run.of("p7;d3;r1 10;r3 14;u5;r7 20;r9 90;r12 0;");
        x.keep(0);
        x.adds(20, 50);
        x.misses(30);
        x.promises(9);
        x.keep(1);
        x.delays(4);
        x.strikes(1);
        x.sees(0, 1);
        x.sees(4, 0);
        x.types("p3;r9 9");
        return x;
    }

    private static String now(Run x) {
        StringBuilder b = new StringBuilder();
        for (int what = 0; what <= 7; what++) b.append(x.count(what)).append(' ');
        for (int k = 0; x.reading(k, 0) != BAD; k++) b.append("| ").append(x.reading(k, 0)).append(' ').append(x.reading(k, 1)).append(' ');
        return b.toString();
    }

    private static String text(Run x) {
        return x.count(9) + " " + x.readings() + " " + x.type(';') + " " + x.readings() + " " + now(x);
    }

    private static String image(Run x, int image) {
        return x.back(image) + ": " + now(x);
    }

    /** Read by an IMAGE's READINGS, as those that are NOW may be others. */
    private static String seen(Run x, int image) {
        x.back(image);
        return x.count(8) + " " + lookAtSeen(x);
    }

    private static List<Part> parts() {
        List<Part> all = new ArrayList<>();
        all.add(new Part("now", LeavesTest::now));
        all.add(new Part("undone", Check::lookAtAllThatCanBeUndone));
        all.add(new Part("text", LeavesTest::text));
        all.add(new Part("seen0", x -> seen(x, 0)));
        all.add(new Part("seen1", x -> seen(x, 1)));
        all.add(new Part("image0", x -> image(x, 0)));
        all.add(new Part("image1", x -> image(x, 1)));
        return all;
    }

    /** A call changes just these parts. */
    private static void changes(ToIntFunction<Run> call, String... changed) {
        List<String> others = List.of(changed);
        for (Part part : parts()) {
            Run x = state();
            due(x, call.applyAsInt(x) >= 0 ? 1 : 0, 1);
            String name = x.last();
            String got = part.look().apply(x);
            String was = part.look().apply(state());
            if (others.contains(part.name())) same(name + " changes " + part.name(), String.valueOf(got.equals(was)), "false");
            else same(part.name() + " behind " + name, got, was);
        }
    }

    private static void theText() {
        says("A letter (0 .. 255) comes to THE TEXT");
        changes(x -> x.type(' '), "text");
        changes(x -> x.type(0), "text");
        says("THE TEXT is empty: how many letters it had.");
        changes(Run::clear, "text");
    }

    private static void theReadings() {
        says("ADDED: a READING behind all; MISSED: one that is UNKNOWN; STRUCK: one goes (those behind are numbered anew); PROMISED, DELAYED: PROMISE, DELAY are others.");
        changes(x -> x.adds(999, 0), "now", "undone");
        changes(x -> x.misses(999), "now", "undone");
        for (int k = 0; k < 6; k++) {
            int which = k;
            changes(x -> x.strikes(which), "now", "undone");
        }
        changes(x -> x.promises(0), "now", "undone");
        changes(x -> x.promises(99), "now", "undone");
        changes(x -> x.delays(1), "now", "undone");
        changes(x -> x.delays(14), "now", "undone");
        // What it already was: nothing is another, but it can be UNDONE.
        changes(x -> x.promises(9), "undone");
        changes(x -> x.delays(4), "undone");
        changes(Run::undo, "now", "undone");
    }

    private static void undoneAtOnce() {
        says("UNDONE: the latest adds(), misses(), strikes(), promises(), delays() that was not refused");
        changes(x -> { x.adds(999, 0); return x.undo(); });
        changes(x -> { x.misses(999); return x.undo(); });
        changes(x -> { x.strikes(0); return x.undo(); });
        changes(x -> { x.strikes(5); return x.undo(); });
        changes(x -> { x.promises(99); return x.undo(); });
        changes(x -> { x.delays(14); return x.undo(); });
    }

    private static void whatIsSeen() {
        says("SEEN: how much there is.");
        changes(x -> x.sees(0, 0), "seen0", "seen1");
        changes(x -> x.sees(3, 1), "seen0", "seen1");
        says("Nothing is SEEN: how much was.");
        changes(Run::forget, "seen0", "seen1");
    }

    private static void theImages() {
        says("IMAGES 0, 1 keep READINGS, PROMISE, DELAY; nothing else (nothing can be UNDONE behind back()).");
        changes(x -> x.keep(0), "image0", "seen0");
        changes(x -> x.keep(1), "image1", "seen1");
        changes(x -> x.back(0), "now", "undone");
        changes(x -> x.back(1), "now", "undone");
        // Behind keep() at once back() changes no more than what can be UNDONE.
        changes(x -> { x.keep(0); return x.back(0); }, "image0", "seen0", "undone");
    }

    private static void allAnew() {
        says("Read anew: as told (what is not told as at first), nothing can be UNDONE, nothing SEEN, IMAGES are gone.");
        changes(x -> { x.type(';'); return x.readings(); }, "now", "undone", "text", "seen0", "seen1", "image0", "image1");
        changes(x -> { x.clear(); return x.readings(); }, "now", "undone", "text", "seen0", "seen1", "image0", "image1");
    }

    public static void main(String[] args) {
        theText();
        theReadings();
        undoneAtOnce();
        whatIsSeen();
        theImages();
        allAnew();
        end();
    }
}
