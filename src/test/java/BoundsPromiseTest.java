/** Which promise, images, counts (promises 16 to 22): for each sentence that names a boundary case a test of its own. */
public final class BoundsPromiseTest extends Check {
    private static final String FOURTEEN = "u0;u1;u2;u3;u4;u5;u6;u7;u8;u9;u10;u11;u12;r13 13;";

    private static void sixAtMost() {
        says("SEEN (6 at most)");
        Run x = Run.of("r0 0;r1 5;r2 0;");
        for (int k = 1; k <= 5; k++) due(x, x.sees(k % 3, 1), k);
        due(x, x.count(8), 5);
        due(x, x.sees(1, 1), 6);
        due(x, x.sees(1, 1), FULL);
        due(x, x.sees(0, 0), FULL);
        due(x, x.count(8), 6);
        unseen(x, 5, 0, 4);
        says("Nothing is SEEN: how much was.");
        due(x, x.forget(), 6);
        due(x, x.forget(), 0);
        due(x, x.count(8), 0);
        unseen(x, 100, 0, 99);
        for (int k = 1; k <= 6; k++) due(x, x.sees(1, 0), k);
        due(x, x.sees(1, 0), FULL);
        unseen(x, 95, 5, 99);
    }

    private static void noSuchSight() {
        says("SEEN: how much there is. BAD (an UNKNOWN one, too); FULL.");
        Run x = Run.of("u0;r1 5;u2;");
        for (int kept = 0; kept <= 1; kept++) {
            due(x, x.sees(0, kept), BAD);
            due(x, x.sees(2, kept), BAD);
            due(x, x.sees(3, kept), BAD);
            due(x, x.sees(-1, kept), BAD);
            due(x, x.sees(LEAST_INT, kept), BAD);
            due(x, x.sees(MOST_INT, kept), BAD);
        }
        for (int kept : new int[] { -1, 2, LEAST_INT, MOST_INT }) due(x, x.sees(1, kept), BAD);
        due(x, x.count(8), 0);
        due(x, x.sees(1, 0), 1);
        due(x, x.sees(1, 1), 2);
        x = Run.of(FOURTEEN);
        due(x, x.sees(14, 1), BAD);
        due(x, x.sees(13, 1), 1);
    }

    /** The middle one of three is KEPT by the PROMISES below its VALUE. */
    private static void corner(int value, int seen, int howMany, int least, int greatest) {
        Run x = Run.of("r0 0;r1 " + value + ";r2 0;");
        x.sees(1, seen);
        unseen(x, howMany, least, greatest);
        if (howMany <= 1) due(x, x.ask(), NONE);
    }

    private static void whichPromises() {
        says("UNSEEN: PROMISES by which all that was SEEN is so: how many; the least; the greatest; NONE.");
        corner(0, 1, 0, NONE, NONE);
        corner(0, 0, 100, 0, 99);
        corner(1, 1, 1, 0, 0);
        corner(1, 0, 99, 1, 99);
        corner(2, 1, 2, 0, 1);
        corner(98, 0, 2, 98, 99);
        corner(99, 1, 99, 0, 98);
        corner(99, 0, 1, 99, 99);
        corner(100, 1, 100, 0, 99);
        corner(100, 0, 0, NONE, NONE);
        Run x = Run.of("r0 0;r1 40;r2 0;");
        x.sees(1, 1);
        x.sees(1, 0);
        unseen(x, 0, NONE, NONE);
        x.forget();
        x.sees(0, 0);
        unseen(x, 0, NONE, NONE);
        x.forget();
        x.sees(0, 1);
        x.sees(2, 1);
        unseen(x, 100, 0, 99);
        for (int what : new int[] { -1, 3, LEAST_INT, MOST_INT }) due(x, x.unseen(what), BAD);
        // PROMISES with a gap between: DOOR KEEPS all by 0 .. 12, 0 2 4 by 13 .. 41, 0 3 4 by 42 .. 74, 0 4 by 75 .. 99.
        x = Run.of("r0 0;r1 50;r2 75;r3 50;r4 0;");
        due(x, x.ask(), 3);
        x.sees(3, 1);
        unseen(x, 46, 0, 74);
        x.forget();
        x.sees(3, 0);
        unseen(x, 54, 13, 99);
    }

    private static void delayAsItIs() {
        says("by an unknown PROMISE (0 .. 99; DELAY as it is NOW) a READING would be KEPT by DOOR (1), or not (0)");
        Run x = Run.of("r0 0;r1 40;r2 0;");
        x.sees(1, 0);
        unseen(x, 60, 40, 99);
        x.delays(2);
        unseen(x, 60, 40, 99);
        x.delays(1);
        unseen(x, 0, NONE, NONE);
        due(x, x.ask(), NONE);
        x.undo();
        unseen(x, 60, 40, 99);
        x.promises(0);
        unseen(x, 60, 40, 99);
        x.promises(99);
        unseen(x, 60, 40, 99);
    }

    private static void asking() {
        says("ASK: the READING by which, KEPT or not, the greater part of these is smallest, of several the lowest; NONE (one can be at most).");
        // 1, 5, 9 are KEPT by 30, 50, 70 of the PROMISES.
        Run x = Run.of("r0 0;r1 30;r2 0;u4;r5 0;r6 50;r7 0;u8;r9 0;r10 70;r11 0;");
        due(x, x.ask(), 5);
        x.sees(5, 0);
        unseen(x, 50, 50, 99);
        due(x, x.ask(), 9);
        x.forget();
        x.sees(5, 1);
        due(x, x.ask(), 1);
        // 40 against 60, 60 against 40: as good, the lowest.
        x = Run.of("u0;r1 0;r2 40;r3 0;u4;r5 0;r6 60;r7 0;");
        due(x, x.ask(), 2);
        x = Run.of("u0;r1 0;r2 60;r3 0;u4;r5 0;r6 40;r7 0;");
        due(x, x.ask(), 2);
        // 41 against 59 is better than 40 against 60, and so is 59 against 41.
        x = Run.of("r1 0;r2 40;r3 0;u4;r5 0;r6 41;r7 0;");
        due(x, x.ask(), 4 + 1);
        x = Run.of("r1 0;r2 60;r3 0;u4;r5 0;r6 59;r7 0;");
        due(x, x.ask(), 4 + 1);
        // Two can be: one is asked. One, none can be: NONE.
        x = Run.of("r0 0;r1 98;r2 0;r3 99;r4 0;");
        x.sees(1, 0);
        unseen(x, 2, 98, 99);
        due(x, x.ask(), 3);
        x.sees(3, 0);
        unseen(x, 1, 99, 99);
        due(x, x.ask(), NONE);
        x.sees(0, 0);
        unseen(x, 0, NONE, NONE);
        due(x, x.ask(), NONE);
    }

    /** What the document leaves open: see NOTES.md. */
    private static void askingWhereNothingParts() {
        says("of several the lowest");
        Run x = Run.of("u0;r1 5;r2 5;");
        due(x, x.ask(), 1);
        due(x = Run.of("u0;u1;"), x.ask(), NONE);
        due(x = new Run(), x.ask(), NONE);
        due(x = Run.of("r7 7;"), x.ask(), 0);
    }

    /** What the document leaves open, too: SEEN stays by its number; what is not there, or is UNKNOWN NOW, is not KEPT. */
    private static void seenAndGone() {
        says("STRUCK: one goes (those behind are numbered anew)");
        Run x = Run.of("r0 0;r1 40;r2 0;");
        x.sees(2, 0);
        unseen(x, 0, NONE, NONE);
        x.strikes(2);
        unseen(x, 100, 0, 99);
        x.undo();
        unseen(x, 0, NONE, NONE);
        x = Run.of("r0 0;r1 40;r2 0;u3;");
        x.sees(2, 1);
        unseen(x, 100, 0, 99);
        x.strikes(0);
        due(x, x.reading(2, 1), NONE);
        unseen(x, 0, NONE, NONE);
        due(x, x.sees(2, 1), BAD);
        due(x, x.count(8), 1);
        x = new Run();
        x.keep(0);
        x.adds(0, 0);
        x.sees(0, 1);
        unseen(x, 100, 0, 99);
        due(x, x.ask(), 0);
        x.back(0);
        unseen(x, 0, NONE, NONE);
        due(x, x.ask(), NONE);
        due(x, x.forget(), 1);
        unseen(x, 100, 0, 99);
    }

    private static void imageNumbers() {
        says("An IMAGE is kept: READINGS. BAD.");
        Run x = Run.of("r1 1;u2;");
        for (int image : new int[] { -1, 2, LEAST_INT, MOST_INT }) {
            due(x, x.keep(image), BAD);
            due(x, x.back(image), BAD);
        }
        says("All of that becomes as an IMAGE has it: READINGS. BAD; STATE: none was kept.");
        due(x, x.back(0), STATE);
        due(x, x.back(1), STATE);
        due(x, x.keep(1), 2);
        due(x, x.back(0), STATE);
        due(x, x.back(1), 2);
        x = Run.of("r1 1;u2;");
        due(x, x.keep(0), 2);
        due(x, x.back(1), STATE);
        due(x, x.back(0), 2);
        due(x, x.back(0), 2);
        for (int image : new int[] { -1, 2 }) due(x, x.back(image), BAD);
    }

    private static void imagesEmptyAndFull() {
        says("IMAGES 0, 1 keep READINGS, PROMISE, DELAY; nothing else");
        Run x = new Run();
        due(x, x.keep(0), 0);
        for (int k = 0; k < 14; k++) x.adds(k, 100 + k);
        x.promises(99);
        x.delays(1);
        due(x, x.keep(1), 14);
        due(x, x.back(0), 0);
        counts(x, 0, 5, 14, 0, 0, 0, 0, NONE, 0, 0, 0);
        due(x, x.back(1), 14);
        counts(x, 14, 99, 1);
        row(x, 0, 0, 1, 2, 3, 4, 5, 6, 7, 8, 9, 10, 11, 12, 13);
        row(x, 1, 100, 101, 102, 103, 104, 105, 106, 107, 108, 109, 110, 111, 112, 113);
        due(x, x.adds(20, 1), FULL);
        // What is kept stays as it was, till it is kept again.
        x.strikes(0);
        x.promises(3);
        x.delays(4);
        due(x, x.back(1), 14);
        counts(x, 14, 99, 1);
        due(x, x.reading(0, 1), 100);
        x.strikes(13);
        due(x, x.keep(1), 13);
        due(x, x.back(0), 0);
        due(x, x.back(1), 13);
        counts(x, 13, 99, 1);
        x.misses(500);
        due(x, x.keep(0), 14);
        x.back(1);
        due(x, x.back(0), 14);
        due(x, x.reading(13, 0), 500);
        due(x, x.reading(13, 1), NONE);
    }

    /** All fourteen are others meanwhile, known ones UNKNOWN and UNKNOWN ones known. */
    private static void imageOfOthers() {
        says("All of that becomes as an IMAGE has it");
        Run x = new Run();
        for (int k = 0; k < 14; k++) if (k % 3 == 0) x.misses(k); else x.adds(k, 100 + k);
        x.keep(0);
        for (int k = 0; k < 14; k++) x.strikes(0);
        for (int k = 0; k < 14; k++) if (k % 3 == 0) x.adds(500 + k, k); else x.misses(500 + k);
        x.promises(77);
        x.delays(7);
        x.keep(1);
        for (int round = 0; round < 2; round++) {
            due(x, x.back(0), 14);
            counts(x, 14, 5, 14);
            row(x, 0, 0, 1, 2, 3, 4, 5, 6, 7, 8, 9, 10, 11, 12, 13);
            row(x, 1, NONE, 101, 102, NONE, 104, 105, NONE, 107, 108, NONE, 110, 111, NONE, 113);
            due(x, x.back(1), 14);
            counts(x, 14, 77, 7);
            row(x, 0, 500, 501, 502, 503, 504, 505, 506, 507, 508, 509, 510, 511, 512, 513);
            row(x, 1, 0, NONE, NONE, 3, NONE, NONE, 6, NONE, NONE, 9, NONE, NONE, 12, NONE);
        }
    }

    private static void nothingElseInAnImage() {
        says("nothing else (nothing can be UNDONE behind back())");
        Run x = Run.of("r1 1;r2 90;r3 1;");
        x.promises(7);
        x.sees(0, 1);
        x.types("p3;");
        x.keep(0);
        due(x, x.count(10), 1);
        due(x, x.count(8), 1);
        due(x, x.count(9), 3);
        x.delays(2);
        x.sees(1, 1);
        x.types("u5");
        due(x, x.back(0), 3);
        counts(x, 3, 7, 14);
        due(x, x.count(8), 2);
        due(x, x.count(9), 5);
        due(x, x.count(10), 0);
        due(x, x.undo(), STATE);
        counts(x, 3, 7, 14);
        unseen(x, 89, 0, 88);
        // What comes behind back() can be UNDONE again, but no further.
        x.promises(8);
        due(x, x.undo(), 0);
        due(x, x.count(1), 7);
        due(x, x.undo(), STATE);
        due(x, x.type(';'), 6);
        due(x, x.readings(), 2);
        counts(x, 1, 3, 14);
        due(x, x.back(0), STATE);
        due(x, x.back(1), STATE);
    }

    private static void imagesOverUndo() {
        says("IMAGES 0, 1 keep READINGS, PROMISE, DELAY");
        Run x = Run.of("r1 1;");
        for (int k = 0; k < 12; k++) x.adds(10 + k, k);
        x.keep(0);
        for (int k = 0; k < 10; k++) x.undo();
        due(x, x.count(0), 3);
        x.keep(1);
        due(x, x.back(0), 13);
        due(x, x.reading(12, 0), 21);
        due(x, x.back(1), 3);
        row(x, 0, 1, 10, 11);
    }

    private static void countsOfAll() {
        says("8 SEEN, 9 letters of THE TEXT, 10 how many may be UNDONE. BAD.");
        Run x = Run.of("p5;d3;r0 0;r1 10;r2 20;r3 30;r4 40;u5;r6 7;u7;r8 0;r9 50;r20 0;");
        x.promises(5);
        x.sees(0, 1);
        x.types("pp");
        counts(x, 11, 5, 3, 3, 7, 4, 6, 11, 1, 2, 1);
        for (int what : new int[] { -1, 11, LEAST_INT, MOST_INT, BAD, NONE }) due(x, x.count(what), BAD);
        x = Run.of(FOURTEEN);
        counts(x, 14, 5, 14, 1, 1, 1, 1, 0, 0, 0, 0);
    }

    private static void theLastCall() {
        says("An object is used for at most 512 calls after it has been made");
        Run x = new Run();
        for (int k = 0; k < 14; k++) x.adds(71 * k, k * 389 % 1000);
        int was = 5;
        for (int k = 0; x.callsLeft() > 1; k++) {
            int promise = k * 37 % 100;
            due(x, x.promises(promise), was);
            was = promise;
        }
        due(x, x.undo(), 9);
    }

    public static void main(String[] args) {
        sixAtMost();
        noSuchSight();
        whichPromises();
        delayAsItIs();
        asking();
        askingWhereNothingParts();
        seenAndGone();
        imageNumbers();
        imagesEmptyAndFull();
        imageOfOthers();
        nothingElseInAnImage();
        imagesOverUndo();
        countsOfAll();
        theLastCall();
        end();
    }
}
