/** STRETCHES, DOOR, PIECES, LEAST, lines and strips (promises 11 to 15, LATE): for each sentence that names a boundary case a test of its own. */
public final class BoundsLinesTest extends Check {
    /** 14 READINGS of one VALUE, at TIMES 0, 10, .. 130. */
    private static Run flat() {
        Run x = new Run();
        for (int k = 0; k < 14; k++) x.adds(10 * k, 7);
        return x;
    }

    /** The LINE of the first and the last one HOLDS by a PROMISE, not by the one below. */
    private static void holdsFrom(int promise, String text) {
        Run x = Run.of(text);
        int last = x.count(0) - 1;
        x.promises(promise);
        due(x, x.why(0, last), NONE);
        row(x, 4, 1, 0, 1);
        row(x, 6, 1, 0, 1);
        if (promise == 0) return;
        x.promises(promise - 1);
        due(x, x.why(0, last), 1);
        row(x, 4, 1, 1, 1);
        row(x, 6, 1, 1, 1);
    }

    private static void holds() {
        says("HOLDS, if of each READING between the VALUE and that of the LINE at its TIME are apart by PROMISE at most");
        holdsFrom(5, "r0 0;r1 5;r2 0;");
        holdsFrom(5, "r0 5;r1 0;r2 5;");
        holdsFrom(0, "r0 0;r1 1;r2 2;");
        holdsFrom(1, "r0 0;r1 1;r2 0;");
        // Apart by 1/2, 1/999, 17/3, 5, 16/3.
        holdsFrom(1, "r0 0;r1 1;r2 3;");
        holdsFrom(1, "r0 0;r1 0;r999 1;");
        holdsFrom(6, "r0 0;r1 6;r3 1;");
        holdsFrom(5, "r0 0;r1 6;r3 3;");
        holdsFrom(6, "r0 1;r1 6;r3 0;");
        holdsFrom(99, "r0 0;r1 99;r2 0;");
        holdsFrom(99, "r0 99;r1 0;r2 99;");
        // Apart by 100, and by 99 and 1/999: more than any PROMISE.
        for (String text : new String[] { "p99;r0 0;r1 100;r2 0;", "p99;r0 1;r1 100;r999 0;" }) {
            Run x = Run.of(text);
            due(x, x.why(0, 2), 1);
            row(x, 4, 1, 1, 1);
            row(x, 6, 1, 1, 1);
        }
        Run x = Run.of("p0;r0 0;r1 999;");
        due(x, x.why(0, 1), NONE);
    }

    private static void firstIsKept() {
        says("DOOR: of each STRETCH the first READING is KEPT");
        Run x = Run.of("u0;r1 5;u2;u3;r4 5;r5 5;r6 5;");
        row(x, 4, 0, 1, 0, 0, 1, 0, 1);
        due(x, x.count(4), 3);
        due(x = Run.of("u0;"), x.count(4), 0);
        // UNKNOWN ones are not, however far they are behind one that is KEPT.
        x = Run.of("d1;r0 0;u1;u2;u3;r4 900;u5;u6;");
        row(x, 4, 1, 0, 0, 0, 1, 0, 0);
        row(x, 5, 0, NONE, NONE, NONE, 4, NONE, NONE);
        due(x, x.count(4), 2);
    }

    /** Each of fourteen is far from the LINE of those beside it. */
    private static void fourteenCorners() {
        says("READINGS 0, 1, ..");
        Run x = new Run();
        for (int k = 0; k < 14; k++) x.adds(10 * k, k % 2 == 0 ? 0 : 500);
        for (int k = 0; k < 14; k++) {
            due(x, x.reading(k, 3), k / 2);
            due(x, x.reading(k, 4), 1);
            due(x, x.reading(k, 5), k == 0 ? 0 : k == 13 ? 130 : 10 * k + 10);
            due(x, x.reading(k, 6), 1);
        }
        counts(x, 14, 5, 14, 1, 14, 7, 14, 10);
        due(x, x.why(11, 13), 12);
        apart(x, 11, 13, 500, 1, 12);
        strip(x, 11, 13, 250, 1);
        told(x, 125, 0, 250, 1);
        told(x, 130, 1, 500, 1);
        // The last one alone is far from the LINE of those ahead.
        x = flat();
        x.strikes(13);
        x.adds(130, 500);
        for (int k = 0; k < 14; k++) {
            due(x, x.reading(k, 3), k == 13 ? 1 : 0);
            due(x, x.reading(k, 4), k == 0 || k >= 12 ? 1 : 0);
            due(x, x.reading(k, 6), k == 0 || k >= 12 ? 1 : 0);
        }
        due(x, x.reading(12, 5), 130);
    }

    private static void allLinesOnTheWay() {
        says("the next one KEPT is j, the last so that the LINES from i to each of i and 1 .. j HOLD");
        // 1 is 7 from the LINE of 0 and 2; from that of 0 and 3 it is 4, and 2 is 6.
        Run x = Run.of("p6;r0 0;r1 6;r2 26;r3 30;");
        due(x, x.why(0, 3), NONE);
        row(x, 4, 1, 1, 1, 1);
        row(x, 6, 1, 0, 0, 1);
        x.promises(7);
        row(x, 4, 1, 0, 0, 1);
    }

    private static void delays() {
        says("and j is i and DELAY at most");
        for (int delay = 1; delay <= 14; delay++) {
            Run x = flat();
            x.delays(delay);
            for (int k = 0; k < 14; k++) {
                boolean isKept = k % delay == 0 || k == 13;
                due(x, x.reading(k, 4), isKept ? 1 : 0);
                due(x, x.reading(k, 5), isKept ? 10 * k : NONE);
            }
        }
        // From one that is KEPT on, not from the first of the STRETCH.
        Run x = Run.of("d3;r0 0;r1 100;r2 100;r3 100;r4 100;r5 100;r6 100;");
        row(x, 4, 1, 1, 0, 0, 1, 0, 1);
        row(x, 5, 0, 2, NONE, NONE, 4, NONE, 6);
        // And anew in each STRETCH.
        x = Run.of("d2;r0 0;r1 0;u2;r3 0;r4 0;r5 0;r6 0;");
        row(x, 4, 1, 1, 0, 1, 0, 1, 1);
        row(x, 5, 0, 1, NONE, 3, NONE, 5, 6);
    }

    private static void sentFirst() {
        says("SENT: a KEPT one that is the first of its STRETCH at its TIME");
        Run x = Run.of("p0;r3 0;r9 500;r20 0;u30;r40 1;r55 500;r70 1;u80;r90 0;");
        row(x, 5, 3, 20, 20, NONE, 40, 70, 70, NONE, 90);
    }

    private static void sentAtOnce() {
        says("another one, if it is the last of its STRETCH or is i and DELAY, at its TIME");
        row(Run.of("r0 0;r5 0;u50;r60 0;"), 5, 0, 5, NONE, 60);
        // The LINE of 0 and 3 does not HOLD; but 2 is 0 and DELAY, so it is SENT ahead of that.
        row(Run.of("d2;r0 0;r10 0;r20 0;r30 500;r40 0;"), 5, 0, NONE, 20, 40, 40);
        row(Run.of("d1;r0 0;r10 500;r20 0;"), 5, 0, 10, 20);
        says("else at the TIME of the next READING");
        row(Run.of("d3;r0 0;r10 0;r20 0;r30 500;r40 0;"), 5, 0, NONE, 30, 40, 40);
        row(Run.of("d2;r0 0;r10 500;r20 0;"), 5, 0, 20, 20);
        row(Run.of("r0 0;r1 500;r999 0;"), 5, 0, 999, 999);
    }

    private static void strips() {
        says("half of the greatest that one of three of them (b between a and c) is apart from the LINE of the others (0: fewer than three)");
        Run x = Run.of("r0 0;r1 999;r2 0;u3;r5 9;");
        strip(x, 0, 0, 0, 1);
        strip(x, 2, 2, 0, 1);
        strip(x, 4, 4, 0, 1);
        strip(x, 0, 1, 0, 1);
        strip(x, 1, 2, 0, 1);
        strip(x, 0, 2, 999, 2);
        strip(Run.of("r0 0;r1 0;r999 1;"), 0, 2, 1, 1998);
        strip(Run.of("r0 0;r1 2;r2 0;"), 0, 2, 1, 1);
        strip(Run.of("r0 0;r1 2;r2 4;"), 0, 2, 0, 1);
        strip(Run.of("r0 4;r1 0;r2 4;"), 0, 2, 2, 1);
        // The greatest is that of 0, 1, 2 (100), greater than those with 0 and 3 (200/3).
        x = Run.of("r0 100;r1 0;r2 100;r3 0;");
        strip(x, 0, 3, 50, 1);
        apart(x, 0, 3, 200, 3, 1);
        // That of 0, 2, 4 (100) is none of neighbours; of 0 .. 3 that of 0, 2, 3 is the greatest (200/3).
        x = Run.of("r0 0;r1 50;r2 100;r3 50;r4 0;");
        strip(x, 0, 4, 50, 1);
        strip(x, 0, 3, 100, 3);
        says("STRIP of i .. j (j may be i): upper (what = 0), lower number (1), in least terms. BAD.");
        x = Run.of("r0 0;r1 9;r2 0;u3;r5 9;");
        for (int what = 0; what <= 1; what++) {
            due(x, x.strip(1, 0, what), BAD);
            due(x, x.strip(3, 3, what), BAD);
            due(x, x.strip(2, 3, what), BAD);
            due(x, x.strip(3, 4, what), BAD);
            due(x, x.strip(2, 4, what), BAD);
            due(x, x.strip(5, 5, what), BAD);
            due(x, x.strip(4, 5, what), BAD);
            due(x, x.strip(-1, 0, what), BAD);
            due(x, x.strip(-1, -1, what), BAD);
            due(x, x.strip(LEAST_INT, LEAST_INT, what), BAD);
            due(x, x.strip(MOST_INT, MOST_INT, what), BAD);
            due(x, x.strip(LEAST_INT, MOST_INT, what), BAD);
        }
        due(x, x.strip(0, 2, -1), BAD);
        due(x, x.strip(0, 2, 2), BAD);
        due(x, x.strip(0, 0, -1), BAD);
        due(x, x.strip(0, 0, 2), BAD);
    }

    private static void pieces() {
        says("as many as have a STRIP of PROMISE at most (DELAY does not matter)");
        for (int delay : new int[] { 1, 2, 14 }) {
            Run x = Run.of("r0 0;r1 10;r2 0;");
            x.delays(delay);
            row(x, 3, 0, 0, 0);
            x.promises(4);
            row(x, 3, 0, 0, 1);
        }
        // STRIPS of 11/2, 29/6, 31/6 by 5; of 99 and 199/2 by 99; of 0 and 1/4 by 0.
        row(Run.of("r0 0;r1 11;r2 0;"), 3, 0, 0, 1);
        row(Run.of("r0 0;r1 10;r3 1;"), 3, 0, 0, 0);
        row(Run.of("r0 0;r1 11;r3 2;"), 3, 0, 0, 1);
        row(Run.of("p99;r0 0;r1 198;r2 0;"), 3, 0, 0, 0);
        row(Run.of("p99;r0 0;r1 199;r2 0;"), 3, 0, 0, 1);
        row(Run.of("p0;r0 0;r1 1;r2 2;r3 4;r4 6;"), 3, 0, 0, 0, 1, 1);
        // Of 0 .. 3 only 1, 2, 3 are too far apart: 11 of the LINE of 1 and 3, and twice 5 may be.
        row(Run.of("r0 6;r1 10;r2 0;r3 12;"), 3, 0, 0, 0, 1);
        row(Run.of("r0 6;r1 10;r2 0;r3 10;"), 3, 0, 0, 0, 0);
        says("from the next one on likewise ..; they are numbered through all STRETCHES");
        row(Run.of("p0;r0 0;r1 5;r2 0;r3 5;r4 0;r5 5;r6 0;"), 3, 0, 0, 1, 1, 2, 2, 3);
        Run x = Run.of("u0;r1 0;u2;u3;r4 0;r5 500;r6 0;u7;r8 0;r9 0;");
        row(x, 3, NONE, 0, NONE, NONE, 1, 1, 2, NONE, 3, 3);
        due(x, x.count(5), 4);
        due(x = flat(), x.count(5), 1);
        due(x, x.reading(13, 3), 0);
        due(x = Run.of("u1;u2;"), x.count(5), 0);
        x = new Run();
        for (int k = 0; k < 14; k++) if (k % 2 == 1) x.adds(k, k); else x.misses(k);
        due(x, x.count(5), 7);
        due(x, x.reading(13, 3), 6);
    }

    private static void least() {
        says("LEAST: of each STRETCH the fewest READINGS, its first and its last among them");
        Run x = Run.of("d1;u0;r1 7;u2;r3 7;r4 9;u5;r6 0;r7 0;r8 0;");
        row(x, 6, 0, 1, 0, 1, 1, 0, 1, 0, 1);
        due(x, x.count(6), 5);
        x = flat();
        x.delays(1);
        for (int k = 0; k < 14; k++) due(x, x.reading(k, 6), k == 0 || k == 13 ? 1 : 0);
        due(x, x.count(6), 2);
        due(x, x.count(4), 14);
        due(x = Run.of("u1;"), x.count(6), 0);
        says("of several such sets the one whose second one is the earliest, then the third ..");
        // 0 1 3 and 0 2 3 both do: 95 apart each; 0 3 does not: 190.
        x = Run.of("p99;r0 0;r1 190;r2 190;r3 0;");
        row(x, 6, 1, 1, 0, 1);
        row(x, 4, 1, 0, 1, 1);
        x.promises(95);
        row(x, 6, 1, 1, 0, 1);
        x.promises(94);
        row(x, 6, 1, 1, 1, 1);
        // The same behind a corner that must be kept: 0 1 2 4 and 0 1 3 4.
        x = Run.of("p99;r0 999;r1 0;r2 190;r3 190;r4 0;");
        row(x, 6, 1, 1, 1, 0, 1);
        row(x, 4, 1, 1, 0, 1, 1);
        // Fewer comes ahead of earlier: 0 3 4 do; sets whose second one is 1 or 2 need one more.
        x = Run.of("p5;r0 0;r1 6;r2 10;r3 15;r4 99;");
        row(x, 6, 1, 0, 0, 1, 1);
    }

    private static void apartOfTwo() {
        says("APART of two of one STRETCH: the greatest that a READING between is apart from their LINE: a fraction; the first one that is so much; NONE (there is none between).");
        Run x = Run.of("r0 0;r1 5;r3 1;r6 0;r7 0;");
        apart(x, 0, 1, NONE, NONE, NONE);
        apart(x, 3, 4, NONE, NONE, NONE);
        apart(x, 0, 3, 5, 1, 1);
        apart(x, 0, 2, 14, 3, 1);
        // Of the LINE of 1 and 4 (5/6 less by each): 2 is 7/3 apart, 3 is 5/6.
        apart(x, 1, 4, 7, 3, 2);
        apart(Run.of("r0 10;r1 12;r2 8;r3 12;r4 10;"), 0, 4, 2, 1, 1);
        apart(Run.of("r0 10;r1 8;r2 12;r3 7;r4 10;"), 0, 4, 3, 1, 3);
        apart(Run.of("r0 10;r1 11;r2 9;r3 13;r4 7;r5 10;"), 0, 5, 3, 1, 3);
        apart(Run.of("r0 10;r1 20;r2 30;r4 50;"), 0, 3, 0, 1, 1);
        apart(Run.of("r0 0;r1 999;r999 0;"), 0, 2, 999, 1, 1);
        apart(Run.of("r0 999;r998 0;r999 999;"), 0, 2, 999, 1, 1);
        apart(Run.of("r0 0;r1 0;r999 1;"), 0, 2, 1, 999, 1);
        apart(Run.of("r0 0;r2 3;r4 1;"), 0, 2, 5, 2, 1);
        apart(Run.of("r0 0;r2 0;r6 1;"), 0, 2, 1, 3, 1);
        // From 999 down to 0 by 999: at 1 the LINE is at 998, at 998 at 1.
        apart(Run.of("r0 999;r1 0;r998 999;r999 0;"), 0, 3, 998, 1, 1);
    }

    private static void noSuchTwo() {
        says("---- lines, strips (i ahead of j, of one STRETCH, else BAD)");
        Run x = Run.of("r0 0;r1 9;r2 0;u3;r5 9;r6 9;r7 9;");
        int[][] pairs = { { 0, 0 }, { 1, 0 }, { 2, 1 }, { 2, 3 }, { 3, 3 }, { 3, 4 }, { 2, 4 }, { 0, 6 }, { 4, 0 }, { -1, 0 }, { -1, 1 }, { 6, 7 }, { 4, 7 },
            { 7, 8 }, { LEAST_INT, 0 }, { 0, MOST_INT }, { LEAST_INT, MOST_INT }, { MOST_INT, LEAST_INT } };
        for (int[] pair : pairs) {
            for (int what = 0; what <= 2; what++) due(x, x.apart(pair[0], pair[1], what), BAD);
            due(x, x.why(pair[0], pair[1]), BAD);
            if (pair[0] != 0 || pair[1] != 0) due(x, x.strip(pair[0], pair[1], 0), BAD);
        }
        says("APART: upper (what = 0), lower number (1), in least terms, which (2); NONE. BAD.");
        for (int what : new int[] { -1, 3, LEAST_INT, MOST_INT }) {
            due(x, x.apart(0, 2, what), BAD);
            due(x, x.apart(0, 1, what), BAD);
        }
        apart(x, 0, 2, 9, 1, 1);
        apart(x, 4, 6, 0, 1, 5);
        // With the UNKNOWN one gone they are of one STRETCH: at 1 the LINE of 0 and 7 is at 9/7.
        x.strikes(3);
        apart(x, 0, 5, 54, 7, 1);
    }

    private static void why() {
        says("WHY: the first READING between that is apart by more than PROMISE; NONE (the LINE HOLDS).");
        Run x = Run.of("p5;r0 0;r1 5;r2 6;r3 7;r4 0;");
        due(x, x.why(0, 4), 2);
        x.promises(6);
        due(x, x.why(0, 4), 3);
        x.promises(7);
        due(x, x.why(0, 4), NONE);
        x.promises(4);
        due(x, x.why(0, 4), 1);
        due(x, x.why(0, 1), NONE);
        due(x, x.why(1, 3), NONE);
        x.promises(0);
        due(x, x.why(1, 3), NONE);
        due(x, x.why(2, 4), 3);
    }

    private static void tellings() {
        says("(of a kept one at its own TIME): a fraction; NONE: ahead of, behind all of a STRETCH, between two of unlike STRETCHES.");
        Run x = Run.of("r10 0;r20 100;u30;r40 7;u50;u60;r70 9;r76 10;");
        for (int way = 0; way <= 1; way++) {
            for (int time : new int[] { 0, 9, 21, 29, 30, 31, 39, 41, 50, 55, 60, 69, 77, 999 }) told(x, time, way, NONE, NONE);
            told(x, 10, way, 0, 1);
            told(x, 11, way, 10, 1);
            told(x, 19, way, 90, 1);
            told(x, 20, way, 100, 1);
            told(x, 40, way, 7, 1);
            told(x, 70, way, 9, 1);
            told(x, 71, way, 55, 6);
            told(x, 73, way, 19, 2);
            told(x, 75, way, 59, 6);
            told(x, 76, way, 10, 1);
        }
        // The only one, first of all or last of all.
        told(Run.of("r5 3;"), 5, 0, 3, 1);
        told(Run.of("r5 3;u6;"), 5, 1, 3, 1);
        told(Run.of("u4;r5 3;"), 5, 0, 3, 1);
        told(Run.of("r5 3;u6;r7 4;"), 5, 1, 3, 1);
        told(Run.of("r5 3;u6;r7 4;"), 7, 0, 4, 1);
        // One that is not kept is told by the LINE, at its own TIME, too.
        x = Run.of("r0 0;r1 3;r2 0;");
        told(x, 1, 0, 0, 1);
        told(x, 1, 1, 0, 1);
        says("TOLD at a TIME by a way (0 DOOR, 1 LEAST): the VALUE of the LINE of both kept ones around it");
        x = Run.of("r0 5;r999 6;");
        told(x, 0, 0, 5, 1);
        told(x, 1, 0, 4996, 999);
        told(x, 998, 1, 5993, 999);
        told(x, 999, 1, 6, 1);
        told(Run.of("r0 10;r3 0;"), 1, 0, 20, 3);
        told(Run.of("r0 10;r3 0;"), 2, 1, 10, 3);
        x = Run.of("p6;r10 0;r11 6;r12 26;r13 30;");
        told(x, 11, 0, 6, 1);
        told(x, 11, 1, 10, 1);
        told(x, 12, 0, 26, 1);
        told(x, 12, 1, 20, 1);
    }

    private static void noSuchTelling() {
        says("TOLD at a TIME by a way: upper (what = 0), lower number (1), in least terms; NONE. BAD.");
        for (Run x : new Run[] { new Run(), Run.of("r0 10;r999 0;") }) {
            for (int time : new int[] { -1, 1000, LEAST_INT, MOST_INT }) due(x, x.told(time, 0, 0), BAD);
            for (int way : new int[] { -1, 2, LEAST_INT, MOST_INT }) due(x, x.told(0, way, 0), BAD);
            for (int what : new int[] { -1, 2, LEAST_INT, MOST_INT }) due(x, x.told(0, 0, what), BAD);
        }
    }

    private static void late(String text, int want) {
        Run x = Run.of(text);
        due(x, x.count(7), want);
    }

    private static void lates() {
        says("LATE: the greatest that a READING that is not UNKNOWN (of a STRETCH) waits: from its TIME till the first KEPT one (by DOOR) at or behind it is SENT; NONE (there is none).");
        late("", NONE);
        late("u1;u900;", NONE);
        late("r500 1;", 0);
        late("u1;r500 1;u999;", 0);
        late("r0 0;r999 0;", 0);
        late("r0 0;u500;r999 0;", 0);
        late("r0 0;r1 0;r999 0;", 998);
        late("r0 0;r1 500;r999 0;", 998);
        late("r0 0;r998 0;r999 0;", 1);
        late("d1;r0 0;r1 500;r999 0;", 0);
        // 1 waits till 2 is SENT, at 30, or, as 2 is 0 and DELAY, at 20.
        late("r0 0;r10 0;r20 0;r30 500;r40 0;", 20);
        late("d2;r0 0;r10 0;r20 0;r30 500;r40 0;", 10);
        // The greatest of the first STRETCH, of the second one.
        late("r0 0;r1 0;r100 0;u200;r300 0;r310 0;r320 0;", 99);
        late("r0 0;r10 0;r20 0;u200;r300 0;r301 0;r400 0;", 99);
    }

    public static void main(String[] args) {
        holds();
        firstIsKept();
        fourteenCorners();
        allLinesOnTheWay();
        delays();
        sentFirst();
        sentAtOnce();
        strips();
        pieces();
        least();
        apartOfTwo();
        noSuchTwo();
        why();
        tellings();
        noSuchTelling();
        lates();
        end();
    }
}
