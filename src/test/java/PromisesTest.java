/** For each promise of the document: ordinary inputs, the edges that it names, wrong inputs; answers worked out by hand. */
public final class PromisesTest {
    private static final int BAD = -1, STATE = -2, FULL = -3, NONE = -9;
    private static int wrong = 0;
    private static String part = "";

    private static void due(String call, int got, int want) {
        if (got == want) return;
        wrong++;
        System.out.println(part + ": " + call + " answered " + got + ", due is " + want);
    }

    private static void type(ThinReadings x, String text) {
        for (int k = 0; k < text.length(); k++) x.type(text.charAt(k));
    }

    private static int read(ThinReadings x, String text) {
        x.clear();
        type(x, text);
        return x.readings();
    }

    private static ThinReadings of(String text) {
        ThinReadings x = new ThinReadings();
        due("readings() of " + text + " is read", read(x, text) >= 0 ? 1 : 0, 1);
        return x;
    }

    private static void row(ThinReadings x, int what, int... wants) {
        due("count(0)", x.count(0), wants.length);
        for (int k = 0; k < wants.length; k++) due("reading(" + k + ", " + what + ")", x.reading(k, what), wants[k]);
    }

    private static void fraction(String call, int upper, int lower, int wantUpper, int wantLower) {
        due(call + " upper", upper, wantUpper);
        due(call + " lower", lower, wantLower);
    }

    private static void promise1() {
        part = "promise 1";
        ThinReadings x = new ThinReadings();
        int[] wants = { 0, 5, 14, 0, 0, 0, 0, NONE, 0, 0, 0 };
        for (int w = 0; w < wants.length; w++) due("count(" + w + ")", x.count(w), wants[w]);
        due("back(0)", x.back(0), STATE);
        due("back(1)", x.back(1), STATE);
        due("undo()", x.undo(), STATE);
        due("constants", ThinReadings.BAD * 1000 + ThinReadings.STATE * 100 + ThinReadings.FULL * 10 + ThinReadings.NONE, -1239);
        ThinReadings y = new ThinReadings();
        y.adds(1, 1);
        due("another object's count(0)", x.count(0), 0);
    }

    private static void promise2() {
        part = "promise 2";
        ThinReadings x = new ThinReadings();
        due("type(0)", x.type(0), 1);
        due("type(255)", x.type(255), 2);
        due("type(-1)", x.type(-1), BAD);
        due("type(256)", x.type(256), BAD);
        due("type(MAX)", x.type(Integer.MAX_VALUE), BAD);
        due("type(MIN)", x.type(Integer.MIN_VALUE), BAD);
        for (int k = 3; k <= 120; k++) due("type(32)", x.type(32), k);
        due("type(32) on a full text", x.type(32), FULL);
        due("BAD comes ahead of FULL", x.type(256), BAD);
        due("count(9)", x.count(9), 120);
    }

    private static void promise3() {
        part = "promise 3";
        ThinReadings x = new ThinReadings();
        due("clear()", x.clear(), 0);
        type(x, "p9;");
        due("clear()", x.clear(), 3);
        due("count(9)", x.count(9), 0);
        due("readings()", x.readings(), 0);
        due("count(1)", x.count(1), 5);
    }

    private static void fault(String text, int place) {
        ThinReadings x = new ThinReadings();
        due("readings() of [" + text + "]", read(x, text), -10 - place);
        due("letters stay of [" + text + "]", x.count(9), text.length());
        due("nothing is read of [" + text + "]", x.count(0), 0);
    }

    private static void fine(String text, int items) {
        ThinReadings x = new ThinReadings();
        due("readings() of [" + text + "]", read(x, text), items);
        due("letters are gone of [" + text + "]", x.count(9), 0);
    }

    private static void promise4() {
        part = "promise 4";
        fine("", 0);
        fine("    ", 0);
        fine("p0;", 1);
        fine("p99;d14;", 2);
        fine("  p  99  ;  d  1  ;  ", 2);
        fine("r0 0;u1;p5;r2 999;d3;u999;", 6);
        fine("u0;u1;u2;u3;u4;u5;u6;u7;u8;u9;u10;u11;u12;u13;p1;d2;", 16);
        fault(";", 0);
        fault("5", 0);
        fault("x", 0);
        fault("P5;", 0);
        fault("\tp5;", 0);
        fault(" \u00e9", 1);
        fault("p", 1);
        fault("p ", 2);
        fault("p;", 1);
        fault("pp", 1);
        fault("p5", 2);
        fault("p5  ", 4);
        fault("p5 5;", 3);
        fault("p5;;", 3);
        fault("p100;", 1);
        fault("p05;", 1);
        fault("p00;", 1);
        fault("p10000;", 1);
        fault("p99999999999999999999;", 1);
        fault("p4294967301;", 1);
        fault("p1;p1;", 3);
        fault("p1;d1;p", 6);
        fault("d0;", 1);
        fault("d15;", 1);
        fault("d1;d1;", 3);
        fault("r12;", 3);
        fault("r1", 2);
        fault("r1 2", 4);
        fault("r1 2 3;", 5);
        fault("r1u2;", 2);
        fault("r1 2x;", 4);
        fault("r1 2;x", 5);
        fault("r1000 0;", 1);
        fault("r0 1000;", 3);
        fault("r0 01;", 3);
        fault("r1 2;r1 3;", 6);
        fault("r1 2;u 0;", 7);
        fault("u5;r4 1;", 4);
        fault("u1000;", 1);
        fault("u999;u", 6);
        fault("u999;u999;", 6);
        fault("u1 2;", 3);
        fault("u0;u1;u2;u3;u4;u5;u6;u7;u8;u9;u10;u11;u12;u13;r14 1;", 46);
        fault("u0;u1;u2;u3;u4;u5;u6;u7;u8;u9;u10;u11;u12;u13;u", 46);
        fault("p100;x", 1);
        fault("xp100;", 0);
        allAnew();
    }

    private static void allAnew() {
        ThinReadings x = of("p7;d2;r1 5;");
        x.adds(2, 5);
        x.sees(0, 1);
        x.keep(0);
        due("a refused text", read(x, "d3"), -12);
        int[] before = { 2, 7, 2, 1, 2, 1, 2, 0, 1, 2, 1 };
        for (int w = 0; w < before.length; w++) due("count(" + w + ") behind a refused text", x.count(w), before[w]);
        due("its end comes", x.type(';'), 3);
        due("readings()", x.readings(), 1);
        int[] after = { 0, 5, 3, 0, 0, 0, 0, NONE, 0, 0, 0 };
        for (int w = 0; w < after.length; w++) due("count(" + w + ") read anew", x.count(w), after[w]);
        due("images are gone", x.back(0), STATE);
        due("nothing can be undone", x.undo(), STATE);
    }

    private static void promise5And6() {
        part = "promises 5, 6";
        ThinReadings x = new ThinReadings();
        due("adds(-1, 0)", x.adds(-1, 0), BAD);
        due("adds(1000, 0)", x.adds(1000, 0), BAD);
        due("adds(0, -1)", x.adds(0, -1), BAD);
        due("adds(0, -9)", x.adds(0, -9), BAD);
        due("adds(0, 1000)", x.adds(0, 1000), BAD);
        due("misses(-1)", x.misses(-1), BAD);
        due("misses(1000)", x.misses(1000), BAD);
        due("adds(0, 999)", x.adds(0, 999), 0);
        due("adds(0, 1)", x.adds(0, 1), STATE);
        due("misses(0)", x.misses(0), STATE);
        due("BAD comes ahead of STATE", x.adds(0, 1000), BAD);
        due("misses(1)", x.misses(1), 1);
        due("misses(1)", x.misses(1), STATE);
        row(x, 0, 0, 1);
        row(x, 1, 999, NONE);
        for (int k = 2; k < 14; k++) due("adds(" + k + ", 0)", x.adds(k, 0), k);
        due("a fifteenth", x.adds(20, 0), FULL);
        due("a fifteenth", x.misses(20), FULL);
        due("STATE comes ahead of FULL", x.adds(13, 0), STATE);
        due("STATE comes ahead of FULL", x.misses(13), STATE);
        due("BAD comes ahead of FULL", x.misses(1000), BAD);
        due("refused ones can't be undone", x.count(10), 10);
        due("count(0)", x.count(0), 14);
        ThinReadings y = of("u999;");
        due("none is later than 999", y.adds(999, 0), STATE);
    }

    private static void promise7() {
        part = "promise 7";
        ThinReadings x = of("r1 10;u2;r3 30;r4 41;");
        due("strikes(4)", x.strikes(4), BAD);
        due("strikes(-1)", x.strikes(-1), BAD);
        due("strikes(MAX)", x.strikes(Integer.MAX_VALUE), BAD);
        due("strikes(1)", x.strikes(1), 3);
        row(x, 0, 1, 3, 4);
        row(x, 1, 10, 30, 41);
        row(x, 2, 0, 0, 0);
        due("strikes(2)", x.strikes(2), 2);
        due("the time is free again", x.adds(4, 1), 2);
        due("strikes(0)", x.strikes(0), 2);
        row(x, 0, 3, 4);
        due("strikes(0)", x.strikes(0), 1);
        due("strikes(0)", x.strikes(0), 0);
        due("strikes(0)", x.strikes(0), BAD);
    }

    private static void promise8And9() {
        part = "promises 8, 9";
        ThinReadings x = new ThinReadings();
        due("promises(-1)", x.promises(-1), BAD);
        due("promises(100)", x.promises(100), BAD);
        due("promises(0)", x.promises(0), 5);
        due("promises(99)", x.promises(99), 0);
        due("promises(99)", x.promises(99), 99);
        due("delays(0)", x.delays(0), BAD);
        due("delays(15)", x.delays(15), BAD);
        due("delays(1)", x.delays(1), 14);
        due("delays(14)", x.delays(14), 1);
        due("count(1)", x.count(1), 99);
        due("count(2)", x.count(2), 14);
        due("the same again can be undone, too", x.count(10), 5);
    }

    private static void promise10() {
        part = "promise 10";
        ThinReadings x = of("r1 1;");
        due("undo()", x.undo(), STATE);
        x.adds(2, 2);
        x.misses(3);
        x.strikes(0);
        x.promises(50);
        x.delays(2);
        x.delays(0);
        row(x, 0, 2, 3);
        due("undo()", x.undo(), 4);
        due("count(2)", x.count(2), 14);
        due("undo()", x.undo(), 3);
        due("count(1)", x.count(1), 5);
        due("undo()", x.undo(), 2);
        row(x, 0, 1, 2, 3);
        row(x, 1, 1, 2, NONE);
        due("undo()", x.undo(), 1);
        row(x, 1, 1, 2);
        due("undo()", x.undo(), 0);
        row(x, 1, 1);
        due("undo()", x.undo(), STATE);
        for (int p = 10; p < 22; p++) x.promises(p);
        due("10 are known", x.count(10), 10);
        for (int left = 9; left >= 0; left--) {
            due("undo()", x.undo(), left);
            due("count(1)", x.count(1), left + 11);
        }
        due("older ones are lost", x.undo(), STATE);
        due("count(1)", x.count(1), 11);
        x.sees(0, 1);
        x.promises(1);
        x.undo();
        due("what is SEEN is not undone", x.count(8), 1);
    }

    private static void promise11() {
        part = "promise 11";
        ThinReadings x = of("p5;d3;r0 0;r1 10;r2 20;r3 30;r4 40;u5;r6 7;u7;r8 0;r9 50;r10 0;");
        row(x, 0, 0, 1, 2, 3, 4, 5, 6, 7, 8, 9, 10);
        row(x, 1, 0, 10, 20, 30, 40, NONE, 7, NONE, 0, 50, 0);
        row(x, 2, 0, 0, 0, 0, 0, NONE, 1, NONE, 2, 2, 2);
        row(x, 3, 0, 0, 0, 0, 0, NONE, 1, NONE, 2, 2, 3);
        row(x, 4, 1, 0, 0, 1, 1, 0, 1, 0, 1, 1, 1);
        row(x, 5, 0, NONE, NONE, 3, 4, NONE, 6, NONE, 8, 10, 10);
        row(x, 6, 1, 0, 0, 0, 1, 0, 1, 0, 1, 1, 1);
        due("reading(-1, 0)", x.reading(-1, 0), BAD);
        due("reading(11, 0)", x.reading(11, 0), BAD);
        due("reading(0, -1)", x.reading(0, -1), BAD);
        due("reading(0, 7)", x.reading(0, 7), BAD);
        due("reading(MAX, 0)", x.reading(Integer.MAX_VALUE, 0), BAD);
        atThePromise();
        doorStopsEarly();
        earliestOfLeast();
    }

    /** The middle one is apart by 5 from the LINE of the others: by 5 it HOLDS, by 4 not; the STRIP is 5/2: by 3 it fits, by 2 not. */
    private static void atThePromise() {
        ThinReadings x = of("p5;r0 0;r1 5;r2 0;");
        row(x, 4, 1, 0, 1);
        row(x, 5, 0, NONE, 2);
        row(x, 6, 1, 0, 1);
        x.promises(4);
        row(x, 4, 1, 1, 1);
        row(x, 5, 0, 2, 2);
        row(x, 6, 1, 1, 1);
        x.promises(3);
        row(x, 3, 0, 0, 0);
        x.promises(2);
        row(x, 3, 0, 0, 1);
    }

    /** By 6 the LINE of 0 and 2 does not HOLD (1 is 7 apart), that of 0 and 3 does: DOOR stops at 1 all the same, LEAST does not. */
    private static void doorStopsEarly() {
        ThinReadings x = of("p6;r0 0;r1 6;r2 26;r3 30;");
        due("why(0, 2)", x.why(0, 2), 1);
        due("why(0, 3)", x.why(0, 3), NONE);
        row(x, 4, 1, 1, 1, 1);
        row(x, 5, 0, 2, 3, 3);
        row(x, 6, 1, 0, 0, 1);
    }

    /** Of several sets that are fewest the one whose second is the earliest is it. */
    private static void earliestOfLeast() {
        // 2 is 150 from the LINE of 1 and 3, 1 is 150 from that of 0 and 2: all are needed.
        ThinReadings x = of("p99;r0 0;r1 300;r2 300;r3 0;");
        row(x, 6, 1, 1, 1, 1);
        // Now 95 each, and 190 from the LINE of 0 and 3: 0 1 3 and 0 2 3 both do.
        x = of("p99;r0 0;r1 190;r2 190;r3 0;");
        row(x, 6, 1, 1, 0, 1);
        row(x, 4, 1, 0, 1, 1);
    }

    private static void promise12() {
        part = "promise 12";
        ThinReadings x = of("r0 0;r1 5;r3 1;r6 0;r7 0;u8;r9 9;");
        // LINE 0 .. 6 is at 0: 1 is 5 apart, 2 is 1 apart. LINE of 0 and 2: 1/3 at 1, 14/3 apart.
        fraction("apart(0, 3)", x.apart(0, 3, 0), x.apart(0, 3, 1), 5, 1);
        due("apart(0, 3, 2)", x.apart(0, 3, 2), 1);
        fraction("apart(0, 2)", x.apart(0, 2, 0), x.apart(0, 2, 1), 14, 3);
        for (int w = 0; w < 3; w++) due("none between", x.apart(0, 1, w), NONE);
        ThinReadings y = of("r0 10;r1 12;r2 8;r3 12;r4 10;");
        fraction("apart(0, 4)", y.apart(0, 4, 0), y.apart(0, 4, 1), 2, 1);
        due("the first that is so much", y.apart(0, 4, 2), 1);
        ThinReadings z = of("r0 10;r1 20;r2 30;r4 50;");
        fraction("apart(0, 3) is nothing", z.apart(0, 3, 0), z.apart(0, 3, 1), 0, 1);
        due("the first that is so much", z.apart(0, 3, 2), 1);
        due("i is j", x.apart(2, 2, 0), BAD);
        due("i behind j", x.apart(3, 0, 0), BAD);
        due("an unknown one", x.apart(0, 5, 0), BAD);
        due("an unknown one", x.apart(5, 6, 0), BAD);
        due("unlike stretches", x.apart(0, 6, 0), BAD);
        due("no such one", x.apart(-1, 2, 0), BAD);
        due("no such one", x.apart(0, 7, 0), BAD);
        due("no such one", x.apart(0, Integer.MAX_VALUE, 0), BAD);
        due("no such what", x.apart(0, 2, 3), BAD);
        due("no such what", x.apart(0, 2, -1), BAD);
        due("BAD, though none is between", x.apart(0, 1, 3), BAD);
    }

    private static void promise13() {
        part = "promise 13";
        ThinReadings x = of("p5;r0 0;r1 5;r2 6;r3 7;r4 0;u5;r6 0;");
        due("why(0, 4)", x.why(0, 4), 2);
        x.promises(4);
        due("why(0, 4)", x.why(0, 4), 1);
        x.promises(7);
        due("why(0, 4)", x.why(0, 4), NONE);
        due("why(0, 1)", x.why(0, 1), NONE);
        due("why(1, 0)", x.why(1, 0), BAD);
        due("why(1, 1)", x.why(1, 1), BAD);
        due("why(0, 5)", x.why(0, 5), BAD);
        due("why(0, 6)", x.why(0, 6), BAD);
        due("why(-1, 1)", x.why(-1, 1), BAD);
        due("why(0, 7)", x.why(0, 7), BAD);
        // 1 is 16/3 apart from the LINE 0 .. 3 of TIMES 0 .. 3.
        ThinReadings y = of("p5;r0 0;r1 6;r2 2;r3 2;");
        due("more than the promise by a third", y.why(0, 3), 1);
    }

    private static void promise14() {
        part = "promise 14";
        ThinReadings x = of("r0 0;r1 5;r2 0;r3 7;u4;r5 1;");
        fraction("strip(0, 0)", x.strip(0, 0, 0), x.strip(0, 0, 1), 0, 1);
        fraction("strip(0, 1)", x.strip(0, 1, 0), x.strip(0, 1, 1), 0, 1);
        fraction("strip(0, 2)", x.strip(0, 2, 0), x.strip(0, 2, 1), 5, 2);
        fraction("strip(1, 3)", x.strip(1, 3, 0), x.strip(1, 3, 1), 3, 1);
        fraction("strip(0, 3)", x.strip(0, 3, 0), x.strip(0, 3, 1), 3, 1);
        fraction("strip(5, 5)", x.strip(5, 5, 0), x.strip(5, 5, 1), 0, 1);
        due("strip(4, 4)", x.strip(4, 4, 0), BAD);
        due("strip(3, 5)", x.strip(3, 5, 0), BAD);
        due("strip(1, 0)", x.strip(1, 0, 0), BAD);
        due("strip(6, 6)", x.strip(6, 6, 0), BAD);
        due("strip(-1, -1)", x.strip(-1, -1, 0), BAD);
        due("strip(0, 0, 2)", x.strip(0, 0, 2), BAD);
        due("strip(0, 0, -1)", x.strip(0, 0, -1), BAD);
        ThinReadings y = of("r0 0;r1 1;r3 0;");
        fraction("strip(0, 2)", y.strip(0, 2, 0), y.strip(0, 2, 1), 1, 2);
        y = of("r0 0;r1 1;r3 1;");
        fraction("strip(0, 2)", y.strip(0, 2, 0), y.strip(0, 2, 1), 1, 3);
    }

    private static void told(ThinReadings x, int time, int way, int upper, int lower) {
        fraction("told(" + time + ", " + way + ")", x.told(time, way, 0), x.told(time, way, 1), upper, lower);
    }

    private static void promise15() {
        part = "promise 15";
        ThinReadings x = of("p6;r10 0;r11 6;r12 26;r13 30;u14;r15 8;u16;r20 1;r26 5;");
        told(x, 9, 0, NONE, NONE);
        told(x, 10, 0, 0, 1);
        told(x, 11, 0, 6, 1);
        told(x, 11, 1, 10, 1);
        told(x, 12, 0, 26, 1);
        told(x, 12, 1, 20, 1);
        told(x, 13, 1, 30, 1);
        told(x, 14, 0, NONE, NONE);
        told(x, 14, 1, NONE, NONE);
        told(x, 15, 0, 8, 1);
        told(x, 16, 0, NONE, NONE);
        told(x, 18, 0, NONE, NONE);
        told(x, 21, 0, 5, 3);
        told(x, 23, 1, 3, 1);
        told(x, 26, 1, 5, 1);
        told(x, 27, 1, NONE, NONE);
        told(x, 999, 1, NONE, NONE);
        told(x, 0, 0, NONE, NONE);
        due("told(-1, 0, 0)", x.told(-1, 0, 0), BAD);
        due("told(1000, 0, 0)", x.told(1000, 0, 0), BAD);
        due("told(10, 2, 0)", x.told(10, 2, 0), BAD);
        due("told(10, -1, 0)", x.told(10, -1, 0), BAD);
        due("told(10, 0, 2)", x.told(10, 0, 2), BAD);
        due("told(10, 0, -1)", x.told(10, 0, -1), BAD);
        due("BAD, though nothing is told there", x.told(0, 0, 2), BAD);
    }

    private static void promise16And17() {
        part = "promises 16, 17";
        ThinReadings x = of("r0 0;r1 5;r2 0;u3;");
        due("forget()", x.forget(), 0);
        due("sees(3, 0)", x.sees(3, 0), BAD);
        due("sees(4, 0)", x.sees(4, 0), BAD);
        due("sees(-1, 0)", x.sees(-1, 0), BAD);
        due("sees(0, 2)", x.sees(0, 2), BAD);
        due("sees(0, -1)", x.sees(0, -1), BAD);
        for (int k = 1; k <= 6; k++) due("sees(1, 1)", x.sees(1, 1), k);
        due("a seventh", x.sees(1, 1), FULL);
        due("BAD comes ahead of FULL", x.sees(3, 1), BAD);
        due("count(8)", x.count(8), 6);
        due("unseen(0)", x.unseen(0), 5);
        due("forget()", x.forget(), 6);
        due("count(8)", x.count(8), 0);
        due("unseen(0)", x.unseen(0), 100);
        due("it can't be undone", x.count(10), 0);
    }

    private static void unseen(ThinReadings x, int howMany, int least, int greatest) {
        due("unseen(0)", x.unseen(0), howMany);
        due("unseen(1)", x.unseen(1), least);
        due("unseen(2)", x.unseen(2), greatest);
    }

    private static void promise18And19() {
        part = "promises 18, 19";
        ThinReadings x = of("u0;r1 0;r2 40;r3 0;u4;r5 0;r6 70;r7 0;");
        unseen(x, 100, 0, 99);
        // 2 is KEPT by 0 .. 39 (40 against 60), 6 by 0 .. 69 (70 against 30).
        due("ask()", x.ask(), 2);
        x.sees(2, 0);
        unseen(x, 60, 40, 99);
        due("ask()", x.ask(), 6);
        x.sees(6, 1);
        unseen(x, 30, 40, 69);
        due("none parts them: the lowest that is not unknown", x.ask(), 1);
        x.sees(1, 0);
        unseen(x, 0, NONE, NONE);
        due("ask()", x.ask(), NONE);
        x.forget();
        x.delays(1);
        unseen(x, 100, 0, 99);
        x.sees(2, 0);
        unseen(x, 0, NONE, NONE);
        x.undo();
        unseen(x, 60, 40, 99);
        x.promises(3);
        unseen(x, 60, 40, 99);
        due("unseen(3)", x.unseen(3), BAD);
        due("unseen(-1)", x.unseen(-1), BAD);
        ThinReadings y = of("u0;u1;");
        due("only unknown ones", y.ask(), NONE);
        ThinReadings z = of("r0 0;r1 98;r2 0;r3 99;r4 0;");
        z.sees(1, 0);
        unseen(z, 2, 98, 99);
        z = of("r0 0;r1 99;r2 0;");
        z.sees(1, 0);
        unseen(z, 1, 99, 99);
        due("one can be at most", z.ask(), NONE);
        seenByNumber();
    }

    /** The document doesn't say what becomes of SEEN when READINGS go: it stays, by number; what isn't there isn't KEPT. */
    private static void seenByNumber() {
        ThinReadings x = of("r0 0;r1 40;r2 0;");
        x.sees(2, 1);
        due("strikes(0)", x.strikes(0), 2);
        due("count(8)", x.count(8), 1);
        unseen(x, 0, NONE, NONE);
        due("undo()", x.undo(), 0);
        unseen(x, 100, 0, 99);
        x.keep(0);
        x.back(0);
        due("images leave what is SEEN", x.count(8), 1);
    }

    private static void promise20And21() {
        part = "promises 20, 21";
        ThinReadings x = of("p7;d3;r1 1;u2;");
        due("keep(-1)", x.keep(-1), BAD);
        due("keep(2)", x.keep(2), BAD);
        due("back(-1)", x.back(-1), BAD);
        due("back(2)", x.back(2), BAD);
        due("back(0)", x.back(0), STATE);
        due("keep(0)", x.keep(0), 2);
        due("back(1)", x.back(1), STATE);
        x.adds(3, 3);
        x.promises(8);
        x.delays(9);
        due("keep(1)", x.keep(1), 3);
        due("keep() leaves what can be undone", x.count(10), 3);
        type(x, "ab");
        x.sees(0, 1);
        due("back(0)", x.back(0), 2);
        row(x, 1, 1, NONE);
        due("count(1)", x.count(1), 7);
        due("count(2)", x.count(2), 3);
        due("count(8)", x.count(8), 1);
        due("count(9)", x.count(9), 2);
        due("count(10)", x.count(10), 0);
        due("nothing can be undone behind back()", x.undo(), STATE);
        due("back(1)", x.back(1), 3);
        row(x, 1, 1, NONE, 3);
        due("count(1)", x.count(1), 8);
        due("count(2)", x.count(2), 9);
        x.strikes(0);
        due("an image is as it was kept", x.back(1), 3);
        x.strikes(0);
        due("keep(1) again", x.keep(1), 2);
        due("back(0)", x.back(0), 2);
        due("back(1)", x.back(1), 2);
        row(x, 0, 2, 3);
        ThinReadings y = new ThinReadings();
        due("an image of nothing", y.keep(1), 0);
        y.adds(1, 1);
        due("back(1)", y.back(1), 0);
    }

    private static void promise22() {
        part = "promise 22";
        ThinReadings x = of("p5;d3;r0 0;r1 10;r2 20;r3 30;r4 40;u5;r6 7;u7;r8 0;r9 50;r20 0;");
        x.promises(5);
        x.sees(0, 1);
        type(x, "pp");
        // LATE: 9 waits from TIME 9 till 20.
        int[] wants = { 11, 5, 3, 3, 7, 4, 6, 11, 1, 2, 1 };
        for (int w = 0; w < wants.length; w++) due("count(" + w + ")", x.count(w), wants[w]);
        due("count(-1)", x.count(-1), BAD);
        due("count(11)", x.count(11), BAD);
        due("count(MAX)", x.count(Integer.MAX_VALUE), BAD);
        due("count(MIN)", x.count(Integer.MIN_VALUE), BAD);
        ThinReadings y = of("u1;u2;");
        due("LATE of unknown ones alone", y.count(7), NONE);
        y.adds(3, 3);
        due("LATE of one", y.count(7), 0);
        y.adds(8, 3);
        due("LATE of two", y.count(7), 0);
        y.adds(9, 3);
        due("LATE: 3 waits for none, 8 for 9", y.count(7), 1);
    }

    public static void main(String[] args) {
        promise1();
        promise2();
        promise3();
        promise4();
        promise5And6();
        promise7();
        promise8And9();
        promise10();
        promise11();
        promise12();
        promise13();
        promise14();
        promise15();
        promise16And17();
        promise18And19();
        promise20And21();
        promise22();
        System.out.println(wrong == 0 ? "all promises hold" : wrong + " answers are not as due");
        if (wrong != 0) System.exit(1);
    }
}
