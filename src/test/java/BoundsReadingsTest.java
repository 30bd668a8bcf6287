/** READINGS and what changes them (promises 1, 5 to 11): for each sentence that names a boundary case a test of its own. */
public final class BoundsReadingsTest extends Check {
    private static Run withReadings(int n) {
        Run x = new Run();
        for (int k = 0; k < n; k++) x.adds(10 * k, k);
        return x;
    }

    private static void aNewObject() {
        says("As told; no READINGS.");
        Run x = new Run();
        counts(x, 0, 5, 14, 0, 0, 0, 0, NONE, 0, 0, 0);
        for (int what = 0; what <= 6; what++) due(x, x.reading(0, what), BAD);
        due(x, x.strikes(0), BAD);
        due(x, x.apart(0, 0, 0), BAD);
        due(x, x.apart(0, 1, 0), BAD);
        due(x, x.why(0, 1), BAD);
        due(x, x.strip(0, 0, 0), BAD);
        due(x, x.sees(0, 0), BAD);
        told(x, 0, 0, NONE, NONE);
        told(x, 999, 1, NONE, NONE);
        unseen(x, 100, 0, 99);
        due(x, x.ask(), NONE);
        due(x, x.undo(), STATE);
        due(x, x.back(0), STATE);
        due(x, x.back(1), STATE);
        due(x, x.forget(), 0);
        due(x, x.clear(), 0);
        due(x, x.readings(), 0);
        Run added = new Run();
        added.adds(0, 0);
        unseen(added, 100, 0, 99);
        added.adds(1, 50);
        added.adds(2, 0);
        due(added, added.ask(), 1);
        due(added, added.sees(1, 0), 1);
        unseen(added, 50, 50, 99);
        Run other = withReadings(3);
        other.type('p');
        other.sees(0, 1);
        other.keep(0);
        counts(x, 0, 5, 14, 0, 0, 0, 0, NONE, 0, 0, 0);
        due(x, x.back(0), STATE);
    }

    private static void fourteen() {
        says("(14 at most), each at a TIME (0 .. 999, later than the one ahead), with a VALUE (0 .. 999), or UNKNOWN.");
        Run x = withReadings(12);
        due(x, x.adds(200, 1), 12);
        due(x, x.misses(201), 13);
        due(x, x.adds(202, 1), FULL);
        due(x, x.misses(202), FULL);
        due(x, x.count(0), 14);
        due(x, x.strikes(0), 13);
        due(x, x.adds(202, 1), 13);
        due(x, x.adds(203, 1), FULL);
        due(x, x.undo(), 9);
        due(x, x.misses(203), 13);
        due(x, x.misses(204), FULL);
        row(x, 0, 10, 20, 30, 40, 50, 60, 70, 80, 90, 100, 110, 200, 201, 203);
    }

    private static void times() {
        says("each at a TIME (0 .. 999");
        Run x = new Run();
        due(x, x.adds(-1, 0), BAD);
        due(x, x.misses(-1), BAD);
        due(x, x.adds(1000, 0), BAD);
        due(x, x.misses(1000), BAD);
        due(x, x.adds(LEAST_INT, 0), BAD);
        due(x, x.misses(MOST_INT), BAD);
        due(x, x.count(0), 0);
        due(x, x.adds(0, 0), 0);
        due(x, x.adds(999, 0), 1);
        row(x, 0, 0, 999);
        x = new Run();
        due(x, x.misses(0), 0);
        due(x, x.misses(999), 1);
        row(x, 0, 0, 999);
    }

    private static void noLater() {
        says("ADDED: its number. BAD; STATE: it is no later; FULL.");
        Run x = Run.of("r5 1;");
        due(x, x.adds(4, 1), STATE);
        due(x, x.adds(5, 1), STATE);
        due(x, x.adds(0, 1), STATE);
        due(x, x.adds(6, 1), 1);
        due(x, x.adds(999, 1), 2);
        due(x, x.adds(999, 1), STATE);
        says("MISSED: its number. BAD; STATE: it is no later; FULL.");
        x = Run.of("u5;");
        due(x, x.misses(4), STATE);
        due(x, x.misses(5), STATE);
        due(x, x.adds(5, 1), STATE);
        due(x, x.misses(6), 1);
        due(x, x.misses(999), 2);
        due(x, x.misses(999), STATE);
        says("later than the one ahead");
        x = Run.of("r5 1;r8 1;");
        x.strikes(1);
        due(x, x.adds(5, 2), STATE);
        due(x, x.adds(6, 2), 1);
        x.undo();
        x.undo();
        due(x, x.adds(8, 2), STATE);
        due(x, x.adds(9, 2), 2);
        x.strikes(0);
        x.strikes(0);
        x.strikes(0);
        due(x, x.adds(0, 2), 0);
        x = Run.of("r5 1;");
        x.keep(0);
        x.adds(900, 1);
        x.back(0);
        due(x, x.adds(5, 1), STATE);
        due(x, x.adds(6, 1), 1);
    }

    private static void values() {
        says("with a VALUE (0 .. 999), or UNKNOWN");
        Run x = new Run();
        due(x, x.adds(1, -1), BAD);
        due(x, x.adds(1, 1000), BAD);
        due(x, x.adds(1, NONE), BAD);
        due(x, x.adds(1, LEAST_INT), BAD);
        due(x, x.adds(1, MOST_INT), BAD);
        due(x, x.adds(1, 0), 0);
        due(x, x.adds(2, 999), 1);
        due(x, x.misses(3), 2);
        row(x, 1, 0, 999, NONE);
    }

    private static void theFirstOfTheRefusals() {
        says("Refused, and nothing changes, the first of these: BAD (a number is not as told, or there is no such thing), STATE (as told), FULL.");
        Run x = withReadings(14);
        due(x, x.adds(130, 1000), BAD);
        due(x, x.adds(1000, 1), BAD);
        due(x, x.misses(1000), BAD);
        due(x, x.adds(130, 1), STATE);
        due(x, x.misses(130), STATE);
        due(x, x.adds(131, 1), FULL);
        due(x, x.misses(131), FULL);
        due(x, x.adds(-1, 1), BAD);
        due(x, x.misses(-1), BAD);
        for (int k = 0; k < 120; k++) x.type(' ');
        due(x, x.type(32), FULL);
        due(x, x.type(256), BAD);
        due(x, x.type(-1), BAD);
        for (int k = 0; k < 6; k++) x.sees(k, 1);
        due(x, x.sees(0, 1), FULL);
        due(x, x.sees(14, 1), BAD);
        due(x, x.sees(0, 2), BAD);
        due(x, x.back(2), BAD);
        due(x, x.back(1), STATE);
        // STATE ahead of FULL where the last one is at 999, so that nothing could be later.
        Run late = Run.of("u986;u987;u988;u989;u990;u991;u992;u993;u994;u995;u996;u997;u998;u999;");
        due(late, late.adds(999, 0), STATE);
        due(late, late.misses(999), STATE);
        due(late, late.misses(1000), BAD);
    }

    private static void behindAll() {
        says("ADDED: a READING behind all");
        Run x = new Run();
        for (int k = 0; k < 14; k++) due(x, k % 2 == 0 ? x.adds(k, k) : x.misses(k), k);
        for (int k = 0; k < 14; k++) {
            due(x, x.reading(k, 0), k);
            due(x, x.reading(k, 1), k % 2 == 0 ? k : NONE);
        }
    }

    private static void struck() {
        says("STRUCK: one goes (those behind are numbered anew)");
        Run x = Run.of("r1 10;u2;r3 30;r4 40;u5;");
        due(x, x.strikes(0), 4);
        row(x, 0, 2, 3, 4, 5);
        row(x, 1, NONE, 30, 40, NONE);
        due(x, x.strikes(3), 3);
        row(x, 0, 2, 3, 4);
        due(x, x.strikes(1), 2);
        row(x, 0, 2, 4);
        row(x, 1, NONE, 40);
        due(x, x.strikes(0), 1);
        due(x, x.strikes(0), 0);
        due(x, x.count(0), 0);
        says("STRUCK: how many are left. BAD.");
        due(x, x.strikes(0), BAD);
        x = Run.of("r1 10;u2;r3 30;");
        due(x, x.strikes(3), BAD);
        due(x, x.strikes(-1), BAD);
        due(x, x.strikes(LEAST_INT), BAD);
        due(x, x.strikes(MOST_INT), BAD);
        due(x, x.strikes(2), 2);
        due(x, x.strikes(2), BAD);
        x = withReadings(14);
        due(x, x.strikes(14), BAD);
        due(x, x.strikes(13), 13);
        due(x, x.strikes(13), BAD);
    }

    private static void stretchesAreJoined() {
        says("READINGS side by side that are not UNKNOWN, as many as can be");
        Run x = Run.of("r1 10;u2;r3 30;u4;u5;r6 60;");
        row(x, 2, 0, NONE, 1, NONE, NONE, 2);
        due(x, x.count(3), 3);
        x.strikes(1);
        row(x, 2, 0, 0, NONE, NONE, 1);
        due(x, x.count(3), 2);
        x.strikes(2);
        row(x, 2, 0, 0, NONE, 1);
        x.strikes(2);
        row(x, 2, 0, 0, 0);
        due(x, x.count(3), 1);
        x.undo();
        row(x, 2, 0, 0, NONE, 1);
        row(Run.of("u1;u2;u3;"), 2, NONE, NONE, NONE);
        due(x = Run.of("u1;u2;u3;"), x.count(3), 0);
        row(Run.of("u1;u2;r3 3;u4;"), 2, NONE, NONE, 0, NONE);
        x = new Run();
        for (int k = 0; k < 14; k++) if (k % 2 == 0) x.adds(k, k); else x.misses(k);
        due(x, x.count(3), 7);
        due(x, x.reading(12, 2), 6);
        due(x, x.reading(13, 2), NONE);
        x = withReadings(14);
        due(x, x.count(3), 1);
        due(x, x.reading(13, 2), 0);
    }

    private static void otherPromises() {
        says("PROMISE (0 .. 99; 5 at first)");
        Run x = new Run();
        due(x, x.promises(-1), BAD);
        due(x, x.promises(100), BAD);
        due(x, x.promises(LEAST_INT), BAD);
        due(x, x.promises(MOST_INT), BAD);
        due(x, x.count(1), 5);
        due(x, x.promises(0), 5);
        due(x, x.promises(99), 0);
        due(x, x.count(1), 99);
        says("PROMISED: what it was. BAD.");
        due(x, x.promises(99), 99);
        due(x, x.promises(1), 99);
        due(x, x.count(10), 4);
        says("DELAY (1 .. 14; 14 at first)");
        x = new Run();
        due(x, x.delays(0), BAD);
        due(x, x.delays(-1), BAD);
        due(x, x.delays(15), BAD);
        due(x, x.delays(LEAST_INT), BAD);
        due(x, x.delays(MOST_INT), BAD);
        due(x, x.count(2), 14);
        due(x, x.delays(1), 14);
        due(x, x.delays(14), 1);
        says("DELAYED: what it was. BAD.");
        due(x, x.delays(14), 14);
        due(x, x.delays(2), 14);
        due(x, x.count(2), 2);
        due(x, x.count(10), 4);
    }

    private static void tenAreKnown() {
        says("that was not refused (10 are known, older ones are lost)");
        for (int changes = 0; changes <= 23; changes++) {
            Run x = new Run();
            for (int p = 1; p <= changes; p++) x.promises(p + 20);
            int known = Math.min(changes, 10);
            due(x, x.count(10), known);
            for (int left = known - 1; left >= 0; left--) {
                due(x, x.undo(), left);
                due(x, x.count(10), left);
                int at = changes - known + left;
                due(x, x.count(1), at == 0 ? 5 : at + 20);
            }
            due(x, x.undo(), STATE);
            due(x, x.undo(), STATE);
            due(x, x.count(1), changes <= 10 ? 5 : changes + 10);
        }
    }

    private static void undoneAndChangedAgain() {
        says("UNDONE: how many more may be. STATE: none.");
        Run x = new Run();
        for (int p = 1; p <= 12; p++) x.promises(p + 20);
        for (int k = 0; k < 4; k++) x.undo();
        due(x, x.count(1), 28);
        x.promises(50);
        x.delays(3);
        due(x, x.count(10), 8);
        due(x, x.undo(), 7);
        counts(x, 0, 50, 14);
        due(x, x.undo(), 6);
        counts(x, 0, 28, 14);
        for (int left = 5; left >= 0; left--) due(x, x.undo(), left);
        counts(x, 0, 22, 14);
        due(x, x.undo(), STATE);
    }

    private static void eachKindIsUndone() {
        says("UNDONE: the latest adds(), misses(), strikes(), promises(), delays() that was not refused");
        Run x = Run.of("p6;d4;r1 10;u2;r3 30;");
        x.adds(4, 40);
        due(x, x.undo(), 0);
        row(x, 0, 1, 2, 3);
        x.misses(4);
        due(x, x.undo(), 0);
        row(x, 0, 1, 2, 3);
        for (int k = 0; k < 3; k++) {
            due(x, x.strikes(k), 2);
            due(x, x.undo(), 0);
            row(x, 0, 1, 2, 3);
            row(x, 1, 10, NONE, 30);
        }
        x.promises(7);
        due(x, x.undo(), 0);
        x.delays(5);
        due(x, x.undo(), 0);
        counts(x, 3, 6, 4);
        due(x, x.undo(), STATE);
        x.promises(6);
        x.delays(4);
        due(x, x.count(10), 2);
        // The fourteenth is another one meanwhile.
        x = withReadings(14);
        x.strikes(13);
        x.misses(555);
        x.undo();
        due(x, x.undo(), 8);
        due(x, x.reading(13, 0), 130);
        due(x, x.reading(13, 1), 13);
        // Of fourteen one goes and comes again.
        x = withReadings(14);
        x.strikes(13);
        x.undo();
        due(x, x.count(0), 14);
        due(x, x.reading(13, 0), 130);
        due(x, x.reading(13, 1), 13);
    }

    private static void otherCallsAreNotUndone() {
        says("the latest adds(), misses(), strikes(), promises(), delays()");
        Run x = Run.of("r1 10;r2 20;");
        x.promises(9);
        x.type('p');
        x.clear();
        x.type('x');
        x.readings();
        x.sees(0, 1);
        x.forget();
        x.sees(1, 1);
        x.keep(0);
        x.ask();
        x.told(1, 0, 0);
        x.promises(100);
        x.delays(0);
        x.adds(2, 1);
        x.misses(1);
        x.strikes(2);
        due(x, x.count(10), 1);
        due(x, x.undo(), 0);
        counts(x, 2, 5, 14);
        due(x, x.count(8), 1);
        due(x, x.count(9), 1);
        due(x, x.back(0), 2);
        due(x, x.count(1), 9);
        due(x, x.undo(), STATE);
    }

    private static void ofAReading() {
        says("(2, 3: NONE, if it is UNKNOWN; 4, 6: 0). BAD.");
        Run x = Run.of("u7;r8 0;");
        int[] unknown = { 7, NONE, NONE, NONE, 0, NONE, 0 };
        int[] only = { 8, 0, 0, 0, 1, 8, 1 };
        for (int what = 0; what <= 6; what++) {
            due(x, x.reading(0, what), unknown[what]);
            due(x, x.reading(1, what), only[what]);
            due(x, x.reading(2, what), BAD);
            due(x, x.reading(-1, what), BAD);
            due(x, x.reading(LEAST_INT, what), BAD);
            due(x, x.reading(MOST_INT, what), BAD);
        }
        for (int k = 0; k <= 1; k++) {
            due(x, x.reading(k, -1), BAD);
            due(x, x.reading(k, 7), BAD);
            due(x, x.reading(k, LEAST_INT), BAD);
            due(x, x.reading(k, MOST_INT), BAD);
        }
        x = withReadings(14);
        due(x, x.reading(13, 0), 130);
        due(x, x.reading(14, 0), BAD);
        says("5 when it is SENT (NONE: it is not KEPT)");
        x = Run.of("r1 0;r2 0;r3 0;");
        row(x, 4, 1, 0, 1);
        row(x, 5, 1, NONE, 3);
    }

    public static void main(String[] args) {
        aNewObject();
        fourteen();
        times();
        noLater();
        values();
        theFirstOfTheRefusals();
        behindAll();
        struck();
        stretchesAreJoined();
        otherPromises();
        tenAreKnown();
        undoneAndChangedAgain();
        eachKindIsUndone();
        otherCallsAreNotUndone();
        ofAReading();
        end();
    }
}
