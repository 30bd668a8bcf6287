import java.util.List;
import java.util.function.Supplier;
import java.util.function.ToIntFunction;

/** Each call that is refused, in each kind of state: what it answers, and that nothing changes by it. */
public final class RefusedTest extends Check {
    private static Run empty() { return new Run(); }

    /** Something of all: STRETCHES, images that differ, ten that can be UNDONE, some SEEN, a text that can be read. */
    private static Run busy() {
        Run x = Run.of("p7;d3;r1 10;r3 14;u5;r7 20;r9 90;r12 0;");
        x.keep(0);
        x.adds(20, 50);
        x.adds(21, 53);
        x.misses(30);
        x.keep(1);
        x.promises(9);
        x.delays(4);
        x.strikes(5);
        x.adds(50, 2);
        x.adds(60, 3);
        x.promises(12);
        x.delays(5);
        x.misses(65);
        x.adds(70, 999);
        x.sees(0, 1);
        x.sees(4, 1);
        x.sees(6, 0);
        x.types("p3;r9 9");
        return x;
    }

    /** All that has a bound is at it: 14 READINGS, six SEEN, 120 letters that can be read. */
    private static Run full() {
        Run x = new Run();
        for (int k = 0; k < 14; k++) x.adds(70 * k, 389 * k % 1000);
        x.keep(1);
        for (int k = 0; k < 6; k++) x.sees(2 * k + 1, 1);
        StringBuilder b = new StringBuilder("p44;d2;");
        for (int k = 0; k < 11; k++) b.append("r").append(10 * k + 100).append(" ").append(100 + k).append(";");
        b.append("u998;");
        while (b.length() < 120) b.append(' ');
        x.types(b.toString());
        return x;
    }

    private static Run unknowns() {
        Run x = new Run();
        for (int k = 0; k < 3; k++) x.misses(k);
        return x;
    }

    private static List<Supplier<Run>> states() {
        return List.of(RefusedTest::empty, RefusedTest::busy, RefusedTest::full, RefusedTest::unknowns);
    }

    private static void everywhere(ToIntFunction<Run> call) {
        for (Supplier<Run> state : states()) refused(state, call, BAD);
    }

    private static void numbersNotAsTold() {
        says("Refused, and nothing changes, the first of these: BAD (a number is not as told, or there is no such thing)");
        for (int odd : new int[] { LEAST_INT, -1, MOST_INT }) {
            everywhere(x -> x.type(odd));
            everywhere(x -> x.adds(odd, 1));
            everywhere(x -> x.adds(999, odd));
            everywhere(x -> x.misses(odd));
            everywhere(x -> x.strikes(odd));
            everywhere(x -> x.promises(odd));
            everywhere(x -> x.delays(odd));
            everywhere(x -> x.reading(odd, 0));
            everywhere(x -> x.reading(0, odd));
            everywhere(x -> x.apart(odd, 1, 0));
            everywhere(x -> x.apart(0, odd, 0));
            everywhere(x -> x.apart(0, 1, odd));
            everywhere(x -> x.why(odd, 1));
            everywhere(x -> x.why(0, odd));
            everywhere(x -> x.strip(odd, 1, 0));
            everywhere(x -> x.strip(0, odd, 0));
            everywhere(x -> x.strip(0, 0, odd));
            everywhere(x -> x.told(odd, 0, 0));
            everywhere(x -> x.told(1, odd, 0));
            everywhere(x -> x.told(1, 0, odd));
            everywhere(x -> x.sees(odd, 1));
            everywhere(x -> x.sees(0, odd));
            everywhere(x -> x.unseen(odd));
            everywhere(x -> x.keep(odd));
            everywhere(x -> x.back(odd));
            everywhere(x -> x.count(odd));
        }
    }

    private static void justBeyond() {
        says("BAD (a number is not as told, or there is no such thing)");
        everywhere(x -> x.type(256));
        everywhere(x -> x.adds(1000, 1));
        everywhere(x -> x.adds(999, 1000));
        everywhere(x -> x.misses(1000));
        everywhere(x -> x.strikes(14));
        everywhere(x -> x.promises(100));
        everywhere(x -> x.delays(0));
        everywhere(x -> x.delays(15));
        everywhere(x -> x.reading(14, 0));
        everywhere(x -> x.reading(0, 7));
        everywhere(x -> x.apart(0, 1, 3));
        everywhere(x -> x.apart(0, 14, 0));
        everywhere(x -> x.apart(1, 1, 0));
        everywhere(x -> x.apart(1, 0, 0));
        everywhere(x -> x.why(0, 14));
        everywhere(x -> x.why(1, 1));
        everywhere(x -> x.why(1, 0));
        everywhere(x -> x.strip(0, 14, 0));
        everywhere(x -> x.strip(14, 14, 0));
        everywhere(x -> x.strip(1, 0, 0));
        everywhere(x -> x.strip(0, 0, 2));
        everywhere(x -> x.told(1000, 0, 0));
        everywhere(x -> x.told(1, 2, 0));
        everywhere(x -> x.told(1, 0, 2));
        everywhere(x -> x.sees(14, 1));
        everywhere(x -> x.sees(0, 2));
        everywhere(x -> x.unseen(3));
        everywhere(x -> x.keep(2));
        everywhere(x -> x.back(2));
        everywhere(x -> x.count(11));
    }

    private static void behindTheLast() {
        says("there is no such thing");
        for (Supplier<Run> state : states()) {
            int n = state.get().count(0);
            refused(state, x -> x.strikes(n), BAD);
            refused(state, x -> x.reading(n, 0), BAD);
            refused(state, x -> x.sees(n, 1), BAD);
            refused(state, x -> x.apart(n - 1, n, 0), BAD);
            refused(state, x -> x.why(n - 1, n), BAD);
            refused(state, x -> x.strip(n, n, 0), BAD);
        }
        for (int k = 0; k < 3; k++) {
            int which = k;
            refused(RefusedTest::unknowns, x -> x.sees(which, 0), BAD);
            refused(RefusedTest::unknowns, x -> x.strip(which, which, 0), BAD);
        }
        refused(RefusedTest::busy, x -> x.sees(2, 1), BAD);
        refused(RefusedTest::busy, x -> x.apart(1, 3, 0), BAD);
        refused(RefusedTest::busy, x -> x.why(0, 2), BAD);
        refused(RefusedTest::busy, x -> x.strip(2, 2, 0), BAD);
    }

    private static void asTold() {
        says("STATE (as told), FULL.");
        refused(RefusedTest::empty, Run::undo, STATE);
        refused(RefusedTest::empty, x -> x.back(0), STATE);
        refused(RefusedTest::empty, x -> x.back(1), STATE);
        refused(RefusedTest::full, x -> x.back(0), STATE);
        refused(() -> { Run x = busy(); x.back(1); return x; }, Run::undo, STATE);
        refused(RefusedTest::busy, x -> x.adds(70, 5), STATE);
        refused(RefusedTest::busy, x -> x.adds(69, 5), STATE);
        refused(RefusedTest::busy, x -> x.misses(70), STATE);
        refused(RefusedTest::unknowns, x -> x.adds(2, 5), STATE);
        refused(RefusedTest::unknowns, x -> x.misses(0), STATE);
        refused(RefusedTest::full, x -> x.adds(910, 5), STATE);
        refused(RefusedTest::full, x -> x.misses(910), STATE);
        refused(RefusedTest::full, x -> x.adds(911, 5), FULL);
        refused(RefusedTest::full, x -> x.misses(911), FULL);
        refused(RefusedTest::full, x -> x.type(0), FULL);
        refused(RefusedTest::full, x -> x.type('p'), FULL);
        refused(RefusedTest::full, x -> x.sees(13, 0), FULL);
        refused(RefusedTest::busy, Run::readings, -17);
    }

    private static void questions() {
        says("(As things are NOW; nothing is changed.)");
        for (Supplier<Run> state : states()) {
            for (int k : new int[] { 0, 1, 5, 13 }) {
                changesNothing(state, x -> x.reading(k, 4));
                changesNothing(state, x -> x.reading(k, 6));
                changesNothing(state, x -> x.apart(0, k, 0));
                changesNothing(state, x -> x.why(0, k));
                changesNothing(state, x -> x.strip(0, k, 1));
                changesNothing(state, x -> x.told(70 * k, 0, 0));
                changesNothing(state, x -> x.told(70 * k + 1, 1, 1));
            }
            for (int w = 0; w <= 2; w++) {
                int what = w;
                changesNothing(state, x -> x.unseen(what));
            }
            for (int w = 0; w <= 10; w++) {
                int what = w;
                changesNothing(state, x -> x.count(what));
            }
            changesNothing(state, Run::ask);
        }
    }

    /** What calls that are not refused leave alone. */
    private static void othersStay() {
        says("THE TEXT is empty: how many letters it had.");
        Run typed = busy(), cleared = busy();
        due(cleared, cleared.clear(), 7);
        for (int k = 0; k < 7; k++) due(cleared, cleared.type("p3;r9 9".charAt(k)), k + 1);
        same("all but THE TEXT", lookAtAll(cleared), lookAtAll(typed));
        says("Nothing is SEEN: how much was.");
        Run seen = busy(), forgotten = busy();
        due(forgotten, forgotten.forget(), 3);
        forgotten.sees(0, 1);
        forgotten.sees(4, 1);
        forgotten.sees(6, 0);
        same("all but what is SEEN", lookAtAll(forgotten), lookAtAll(seen));
        says("An IMAGE is kept: READINGS.");
        Run bare = busy(), kept = busy();
        due(kept, kept.keep(0), bare.count(0));
        same("all but an IMAGE", lookAtAll(kept), lookAtAll(bare));
    }

    public static void main(String[] args) {
        numbersNotAsTold();
        justBeyond();
        behindTheLast();
        asTold();
        questions();
        othersStay();
        end();
    }
}
