/** THE TEXT (promises 2, 3, 4): for each sentence that names a boundary case a test of its own. */
public final class BoundsTextTest extends Check {
    /** Fourteen ITEMS, 46 letters. */
    private static final String FOURTEEN = "u0;u1;u2;u3;u4;u5;u6;u7;u8;u9;u10;u11;u12;u13;";

    /** Thirteen READINGS of nine letters each and p5: 119 letters, so that one more ends it. */
    private static String allButOne() {
        StringBuilder b = new StringBuilder();
        for (int k = 0; k < 13; k++) b.append("r").append(101 + k).append(" ").append(201 + k).append(";");
        return b.append("p6").toString();
    }

    private static void mostLetters() {
        says("They are a text (120 letters at most)");
        Run x = new Run();
        for (int k = 1; k <= 119; k++) due(x, x.type(' '), k);
        due(x, x.count(9), 119);
        due(x, x.type(' '), 120);
        due(x, x.type(' '), FULL);
        due(x, x.count(9), 120);
        due(x, x.readings(), 0);
        Run whole = fine(allButOne() + ";", 14);
        counts(whole, 13, 6, 14);
        due(whole, whole.reading(12, 0), 113);
        due(whole, whole.reading(12, 1), 213);
    }

    private static void faultsAtTheFarEnd() {
        says("the text's length, if it ends too early");
        fault(allButOne() + " ", 120);
        fault(" " + allButOne(), 120);
        fault("  " + allButOne().substring(0, 118), 120);
        says("of any other letter, a NUMBER above 9999 or with a 0 ahead of others, that TOKEN's");
        fault(allButOne() + "x", 119);
        // The last letter is the second of 66, of 06, the only one of a NUMBER that can't stand there.
        fault(allButOne() + "6", 120);
        fault(allButOne().substring(0, 118) + "06", 118);
        fault(allButOne().substring(0, 117) + "p 6", 120);
        fault(allButOne().substring(0, 117) + "p6 ", 120);
        fault(allButOne().substring(0, 117) + "  6", 119);
        fault(allButOne().substring(0, 117) + "p;6", 118);
        says("BAD; FULL.");
        Run x = new Run();
        x.types(allButOne() + " ");
        due(x, x.type(';'), FULL);
        due(x, x.readings(), -130);
        due(x, x.count(9), 120);
    }

    private static void letters() {
        says("A letter (0 .. 255) comes to THE TEXT: how many it has.");
        Run x = new Run();
        due(x, x.type(0), 1);
        due(x, x.type(255), 2);
        due(x, x.type(1), 3);
        due(x, x.type(254), 4);
        due(x, x.type(-1), BAD);
        due(x, x.type(256), BAD);
        due(x, x.type(256 + ';'), BAD);
        due(x, x.type(LEAST_INT), BAD);
        due(x, x.type(MOST_INT), BAD);
        due(x, x.count(9), 4);
    }

    private static void clearing() {
        says("THE TEXT is empty: how many letters it had.");
        Run x = new Run();
        due(x, x.clear(), 0);
        x.types("p");
        due(x, x.clear(), 1);
        due(x, x.clear(), 0);
        due(x, x.count(9), 0);
        x.types(allButOne() + ";");
        due(x, x.type(' '), FULL);
        due(x, x.clear(), 120);
        due(x, x.type('p'), 1);
        due(x, x.type('7'), 2);
        due(x, x.type(';'), 3);
        due(x, x.readings(), 1);
        counts(x, 0, 7, 14);
    }

    /** Letters of a longer text that is gone stand behind none of a shorter one. */
    private static void shorterThanTheOneAhead() {
        says("THE TEXT is empty");
        for (String gone : new String[] { "          ", "5555555555", ";;;;;;;;;;", "pppppppppp" }) {
            for (String text : new String[] { "", "p", "p5", "p5;", "r1", "r1 2", "u3", "u3 " }) {
                Run x = new Run();
                x.types(gone);
                due(x, x.clear(), 10);
                boolean isWhole = text.isEmpty() || text.equals("p5;");
                due(x, x.tell(text), isWhole ? text.length() / 3 : -10 - text.length());
            }
        }
        Run x = new Run();
        due(x, x.tell("p55;d11;"), 2);
        due(x, x.tell("p5"), -12);
        due(x, x.type(';'), 3);
        due(x, x.readings(), 1);
        counts(x, 0, 5, 14);
    }

    private static void blanks() {
        says("blanks (32), any number, ahead of, between, behind TOKENS (needed only between two NUMBERS)");
        String[] texts = { "p7;d3;r1 2;u4;", " p 7 ; d 3 ; r 1 2 ; u 4 ; ", "   p   7   ;   d   3   ;   r   1   2   ;   u   4   ;   " };
        for (String text : texts) {
            Run x = fine(text, 4);
            counts(x, 2, 7, 3);
            row(x, 0, 1, 4);
            row(x, 1, 2, NONE);
        }
        fault("r10;", 3);
        fault("r101;", 4);
        fault("r01;", 1);
        fault("p1 0;", 3);
        fault("d1 4;", 3);
        for (int odd : new int[] { 0, 9, 10, 11, 12, 13, 31, 33, 95, 133, 160, 255 }) {
            fault((char) odd + "p7;", 0);
            fault("p" + (char) odd + "7;", 1);
            fault("p7" + (char) odd + ";", 2);
            fault("p7;" + (char) odd, 3);
            fault("r1" + (char) odd + "2;", 2);
        }
    }

    private static void noItems() {
        says("ITEMS (none, too)");
        fine("", 0);
        fine(" ", 0);
        Run x = Run.of("p9;d2;r1 1;");
        due(x, x.readings(), 0);
        counts(x, 0, 5, 14, 0, 0, 0, 0, NONE, 0, 0, 0);
    }

    private static void ended() {
        says("each ended by ;");
        for (String item : new String[] { "p5", "d5", "r5 5", "u5" }) {
            fine(item + ";", 1);
            fault(item, item.length());
            fault(item + ";;", item.length() + 1);
            fault(item + ":", item.length());
            fault(item + "<", item.length());
            fault(item + ",", item.length());
        }
        fault(";", 0);
        fault("p5d5;", 2);
        fault("r5 5u6;", 4);
    }

    private static void onceAtMost() {
        says("p N (PROMISE), d N (DELAY; once at most each)");
        counts(fine("p0;", 1), 0, 0, 14);
        counts(fine("p99;", 1), 0, 99, 14);
        fault("p100;", 1);
        counts(fine("d1;", 1), 0, 5, 1);
        counts(fine("d14;", 1), 0, 5, 14);
        fault("d0;", 1);
        fault("d15;", 1);
        counts(fine("d2;u1;p3;", 3), 1, 3, 2);
        fault("p5;p5;", 3);
        fault("d14;d14;", 4);
        fault("p1;d1;u1;p1;", 9);
        fault("p1;d1;u1;d1;", 9);
    }

    private static void readingItems() {
        says("r T V (the next READING)");
        Run x = fine("r0 0;r999 999;", 2);
        row(x, 0, 0, 999);
        row(x, 1, 0, 999);
        fault("r1000 0;", 1);
        fault("r0 1000;", 3);
        fault("r0;", 2);
        fault("r;", 1);
        fault("r0 0 0;", 5);
        says("u T (the next one, UNKNOWN)");
        x = fine("u0;u999;", 2);
        row(x, 0, 0, 999);
        row(x, 1, NONE, NONE);
        fault("u1000;", 1);
        fault("u;", 1);
        fault("u0 0;", 3);
    }

    /** Tokens that can't stand behind a beginning: the place is theirs, with blanks ahead, too, and whatever comes behind. */
    private static void none(String beginning, String... tokens) {
        for (String token : tokens) {
            boolean isTwoNumbers = Character.isDigit(token.charAt(0)) && beginning.matches(".*[0-9]");
            if (!isTwoNumbers) {
                fault(beginning + token, beginning.length());
                fault(beginning + token + "x;", beginning.length());
            }
            fault(beginning + "  " + token, beginning.length() + 2);
            fault(beginning + "  " + token + ";p1;", beginning.length() + 2);
        }
    }

    private static void cannotStandThere() {
        says("FAULT: the place of the first letter of the first TOKEN that can't stand there");
        none("", "5", ";", "0", "9999");
        none("p", "p", "d", "r", "u", ";");
        none("p5", "p", "d", "r", "u", "5");
        none("d", "p", "d", "r", "u", ";");
        none("d5", "p", "d", "r", "u", "5");
        none("r", "p", "d", "r", "u", ";");
        none("r5", "p", "d", "r", "u", ";");
        none("r5 5", "p", "d", "r", "u", "5");
        none("u", "p", "d", "r", "u", ";");
        none("u5", "p", "d", "r", "u", "5");
        none("p5;", "5", ";", "p");
        none("d5;", "5", ";", "d");
        none("r5 5;", "5", ";");
        none("u5;", "5", ";");
    }

    private static void cannotStandThereEither() {
        says("(p, d again, a fifteenth READING, a TIME that is no later, a NUMBER beyond what it may be, too)");
        fault("p5;d5;p", 6);
        fault("p5;d5;d", 6);
        fine(FOURTEEN, 14);
        counts(fine(FOURTEEN + "p9;d2;", 16), 14, 9, 2);
        fault(FOURTEEN + "u", 46);
        fault(FOURTEEN + "r", 46);
        fault(FOURTEEN + " u14;", 47);
        fault(FOURTEEN + "r14 5;", 46);
        fault("u5;u5;", 4);
        fault("u5;u4;", 4);
        fault("u5;u 0;", 5);
        fault("r5 1;u5;", 6);
        fault("u5;r5 1;", 4);
        fault("r5 1;r4 1;", 6);
        fault("u0;u0;", 4);
        fault("u999;u999;", 6);
        row(fine("u5;r6 1;u7;", 3), 0, 5, 6, 7);
        row(fine("u0;r1 1;", 2), 0, 0, 1);
        row(fine("u998;r999 1;", 2), 0, 998, 999);
        // A VALUE need not be later, bigger or anything else than the one ahead.
        row(fine("r5 900;r6 0;r7 0;", 3), 1, 900, 0, 0);
    }

    private static void otherLetters() {
        says("TOKENS are the letters p, d, r, u, NUMBERS and ;");
        for (int letter = 0; letter <= 255; letter++) {
            if ("pdru; 0123456789".indexOf(letter) >= 0) continue;
            fault(String.valueOf((char) letter), 0);
            fault("p5;" + (char) letter, 3);
            fault("r1 2" + (char) letter, 4);
        }
    }

    private static void oddNumbers() {
        says("a NUMBER above 9999 or with a 0 ahead of others, that TOKEN's");
        fine("p0;", 1);
        fine("r0 0;", 1);
        fine("u0;", 1);
        String[] odd = { "00", "01", "05", "000", "0999", "9999", "10000", "65541", "99999", "2147483653", "4294967301", "18446744073709551621",
            "100000000000000000000000000000000000000000000000000000000000000000000000000000000000005" };
        for (String number : odd) {
            fault("p" + number + ";", 1);
            fault("d " + number + ";", 2);
            fault("r" + number + " 1;", 1);
            fault("r1 " + number + ";", 3);
            fault("u  " + number, 3);
            fault("p5;" + number, 3);
        }
    }

    private static void tooEarly() {
        says("the text's length, if it ends too early");
        for (String text : new String[] { "p", "p5", "d", "d5", "r", "r5", "r5 5", "u", "u5", "p5;d", "p5;d5;r5 5", FOURTEEN + "p" }) {
            fault(text, text.length());
            fault(text + " ", text.length() + 1);
            fault(text + "     ", text.length() + 5);
        }
    }

    /** All that a successful reading must take away or set. */
    private static Run busy() {
        Run x = Run.of("p7;d3;r1 10;u2;r3 30;");
        x.adds(4, 40);
        x.keep(0);
        x.keep(1);
        x.sees(0, 1);
        x.sees(3, 1);
        return x;
    }

    private static void allAnew() {
        says("THE TEXT tells all anew, and is empty then: how many ITEMS.");
        Run x = busy();
        due(x, x.tell("r8 9;"), 1);
        due(x, x.count(9), 0);
        row(x, 0, 8);
        row(x, 1, 9);
        due(x, x.readings(), 0);
        due(x, x.count(0), 0);

        says("Read anew: as told (what is not told as at first), nothing can be UNDONE, nothing SEEN, IMAGES are gone.");
        counts(anew(""), 0, 5, 14, 0, 0, 0, 0, NONE, 0, 0, 0);
        counts(anew("p8;"), 0, 8, 14, 0, 0, 0, 0, NONE, 0, 0, 0);
        counts(anew("d8;"), 0, 5, 8, 0, 0, 0, 0, NONE, 0, 0, 0);
        counts(anew("u8;"), 1, 5, 14, 0, 0, 0, 0, NONE, 0, 0, 0);
        counts(anew("r8 8;"), 1, 5, 14, 1, 1, 1, 1, 0, 0, 0, 0);
        x = anew("r8 8;r9 8;");
        unseen(x, 100, 0, 99);
        due(x, x.forget(), 0);
        x.keep(1);
        due(x, x.back(0), STATE);
        due(x, x.back(1), 2);
        // A second reading starts from what is at first, not from the text ahead of it.
        x = Run.of("p8;d2;");
        due(x, x.tell("u1;"), 1);
        counts(x, 1, 5, 14);
        due(x, x.tell("p9;"), 1);
        counts(x, 0, 9, 14);
    }

    private static Run anew(String text) {
        Run x = busy();
        due(x, x.tell(text) >= 0 ? 1 : 0, 1);
        due(x, x.undo(), STATE);
        due(x, x.back(0), STATE);
        due(x, x.back(1), STATE);
        return x;
    }

    private static void notRead() {
        says("-10 less FAULT: nothing changes (THE TEXT stays, too).");
        String[] texts = { ";", "p9;d2;r5 5;x", "p9;p", "d2;d", "r9 9;r9 9;", FOURTEEN + "u14;", "u1", "r1000 1;", "p100;" };
        int[] places = { 0, 11, 3, 3, 6, 46, 2, 1, 1 };
        for (int k = 0; k < texts.length; k++) {
            String text = texts[k];
            refused(() -> { Run x = busy(); x.types(text); return x; }, Run::readings, -10 - places[k]);
        }
        Run x = busy();
        x.types("p9;u1");
        due(x, x.readings(), -15);
        due(x, x.readings(), -15);
        due(x, x.type(';'), 6);
        due(x, x.readings(), 2);
        counts(x, 1, 9, 14);
        // What a refused text told is not left over for the next one.
        x = new Run();
        due(x, x.tell("p9;d2;u5;u5;"), -20);
        x.clear();
        due(x, x.tell("p8;u5;"), 2);
        counts(x, 1, 8, 14);
    }

    public static void main(String[] args) {
        mostLetters();
        faultsAtTheFarEnd();
        letters();
        clearing();
        shorterThanTheOneAhead();
        blanks();
        noItems();
        ended();
        onceAtMost();
        readingItems();
        cannotStandThere();
        cannotStandThereEither();
        otherLetters();
        oddNumbers();
        tooEarly();
        allAnew();
        notRead();
        end();
    }
}
