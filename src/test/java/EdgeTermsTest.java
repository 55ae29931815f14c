/** "Terms", sentence by sentence: what holds for all calls alike. */
public final class EdgeTermsTest {
    private static final int UNKNOWN = Run.UNKNOWN, OUTSIDE = Run.OUTSIDE, STATE = Run.STATE, FULL = Run.FULL;
    private static final int NONE = Run.NONE;
    private static final long LOST = Run.LOST;
    private static final int NULL = Run.NULL, CAST = Run.CAST, INDEX = Run.INDEX, SIZE = Run.SIZE;
    private static final int BYTES = Run.BYTES, SHORTS = Run.SHORTS, INTS = Run.INTS;
    /** What fault() is in every scene: it stays behind calls that name no faults. */
    private static final int STAYS = 2;
    private static final Check check = new Check("EdgeTermsTest");

    public static void main(String[] args) {
        numbersOfRefusals();
        orderInTheHotel();
        orderInWhatBefalls();
        orderInDinner();
        orderInHowItShouldDawn();
        orderInWhatBefell();
        orderInSheets();
        orderInParts();
        faultsAnswerTenLess();
        lostWhereALongIsAnswered();
        cellsFromIOnInHotel();
        cellsFromIOnInDinner();
        cellsFromIOnInCopy();
        noneIsMinusNine();
        setsAreBits();
        quotientsAreCut();
        sharesAreInLeastTerms();
        check.end();
    }

    private static void refused(Scene scene, int want, String name, int... args) {
        scene.idle(check, want, STAYS, name, args);
    }

    /** A refusal of a call that names faults: it came to none. */
    private static void refusedOfFaults(Scene scene, int want, String name, int... args) {
        scene.idle(check, want, 0, name, args);
    }

    private static void failed(Scene scene, int want, String name, int... args) {
        scene.idle(check, want, -10 - want, name, args);
    }

    private static void numbersOfRefusals() {
        check.due("UNKNOWN", StayingGuests.UNKNOWN, -1);
        check.due("OUTSIDE", StayingGuests.OUTSIDE, -2);
        check.due("STATE", StayingGuests.STATE, -3);
        check.due("FULL", StayingGuests.FULL, -4);
        check.due("NONE", StayingGuests.NONE, -9);
        check.due("LOST", StayingGuests.LOST, -9223372036854775808L);
    }

    // "REFUSALS, in the order in which a call's line tells them; they change nothing": each call below could be
    // refused in more ways than one.

    private static void orderInTheHotel() {
        refusedOfFaults(Scene.LIVELY, UNKNOWN, "hotel", 4, 3, -1, -1);
        refusedOfFaults(Scene.LIVELY, UNKNOWN, "hotel", -1, -1, 99, 99);
        refusedOfFaults(Scene.LIVELY, OUTSIDE, "hotel", 3, 3, -1, -1);
        refusedOfFaults(Scene.LIVELY, OUTSIDE, "hotel", 0, -1, -1, -1);
        refusedOfFaults(Scene.LIVELY, OUTSIDE, "hotel", 0, 3, 99, 99);
        failed(Scene.LIVELY, CAST, "hotel", 0, SHORTS, -1, -1);
        failed(Scene.LIVELY, CAST, "hotel", 0, INTS, 99, 99);
        failed(Scene.LIVELY, CAST, "hotel", 1, BYTES, 0, 6);
        failed(Scene.LIVELY, NULL, "hotel", 3, BYTES, -1, -1);
        failed(Scene.LIVELY, NULL, "hotel", 3, INTS, 99, 99);
        failed(Scene.LIVELY, SIZE, "hotel", 0, BYTES, -1, -1);
        failed(Scene.LIVELY, SIZE, "hotel", 0, BYTES, 99, -1);
        failed(Scene.LIVELY, INDEX, "hotel", 0, BYTES, 1, 26);
        refusedOfFaults(Scene.LIVELY, -100, "hotel", 0, BYTES, 1, 25);
        refused(Scene.LIVELY, UNKNOWN, "ofGuest", 4, 7);
        refused(Scene.LIVELY, UNKNOWN, "ofGuest", -1, -1);
        refused(Scene.LIVELY, OUTSIDE, "ofGuest", 3, 7);
        refused(Scene.LIVELY, UNKNOWN, "word", 5, 0);
        refused(Scene.LIVELY, UNKNOWN, "word", -1, 10);
        refused(Scene.LIVELY, OUTSIDE, "word", 4, 10);
        refused(Scene.LIVELY, UNKNOWN, "weighs", 5, 4);
        refused(Scene.LIVELY, UNKNOWN, "seat", 4, 6);
        refused(Scene.LIVELY, UNKNOWN, "seat", -1, -1);
        refused(Scene.LIVELY, OUTSIDE, "seat", 3, 6);
    }

    private static void orderInWhatBefalls() {
        refused(Scene.LIVELY, UNKNOWN, "give", 5, 3);
        refused(Scene.LIVELY, UNKNOWN, "give", -1, 3);
        refused(Scene.LIVELY, UNKNOWN, "give", 5, 4);
        refused(Scene.LIVELY, STATE, "give", 4, 3);
        refused(Scene.NO_HOTEL, OUTSIDE, "nights", 0);
        refused(Scene.NO_HOTEL, OUTSIDE, "nights", 31);
        refused(Scene.NO_HOTEL, STATE, "nights", 1);
        refused(Scene.NO_HOTEL, STATE, "nights", 30);
        refused(Scene.NO_HOTEL, OUTSIDE, "arrive", 3, 1, 1, 0);
        refused(Scene.NO_HOTEL, OUTSIDE, "arrive", 0, 10, 1, 0);
        refused(Scene.NO_HOTEL, OUTSIDE, "arrive", 0, 1, 10, 0);
        refused(Scene.NO_HOTEL, OUTSIDE, "arrive", 0, 1, 1, 6);
        refused(Scene.NO_HOTEL, STATE, "arrive", 0, 1, 1, 0);
        refused(Scene.CROWDED, OUTSIDE, "arrive", 3, 1, 1, 0);
        refused(Scene.CROWDED, OUTSIDE, "arrive", 0, 0, 1, 0);
        refused(Scene.CROWDED, OUTSIDE, "arrive", 0, 1, 0, 0);
        refused(Scene.CROWDED, OUTSIDE, "arrive", 0, 1, 1, 6);
        refused(Scene.CROWDED, FULL, "arrive", 0, 1, 1, 0);
        refused(Scene.ALONE, UNKNOWN, "leave", 1);
        refused(Scene.ALONE, UNKNOWN, "leave", -1);
        refused(Scene.ALONE, STATE, "leave", 0);
        refused(Scene.NO_HOTEL, UNKNOWN, "leave", 0);
    }

    private static void orderInDinner() {
        refusedOfFaults(Scene.LIVELY, UNKNOWN, "dinner", 4, 3, -1, 21, 5);
        refusedOfFaults(Scene.LIVELY, UNKNOWN, "dinner", -1, -1, -1, -1, -1);
        refusedOfFaults(Scene.NO_HOTEL, UNKNOWN, "dinner", 4, BYTES, 0, 0, 0);
        refusedOfFaults(Scene.LIVELY, OUTSIDE, "dinner", 3, 3, -1, 0, 0);
        refusedOfFaults(Scene.LIVELY, OUTSIDE, "dinner", 3, BYTES, -1, 21, 0);
        refusedOfFaults(Scene.LIVELY, OUTSIDE, "dinner", 3, BYTES, -1, -1, 0);
        refusedOfFaults(Scene.LIVELY, OUTSIDE, "dinner", 3, BYTES, -1, 0, 5);
        refusedOfFaults(Scene.LIVELY, OUTSIDE, "dinner", 1, BYTES, -1, 0, 16);
        refusedOfFaults(Scene.NO_HOTEL, OUTSIDE, "dinner", 1, INTS, 99, 0, 9);
        failed(Scene.LIVELY, CAST, "dinner", 1, BYTES, 99, 20, 0);
        failed(Scene.NO_HOTEL, CAST, "dinner", 1, SHORTS, -1, 0, 0);
        failed(Scene.LIVELY, NULL, "dinner", 3, SHORTS, -1, 20, 0);
        failed(Scene.NO_HOTEL, NULL, "dinner", 3, BYTES, 0, 0, 0);
        failed(Scene.NO_HOTEL, INDEX, "dinner", 1, INTS, 7, 0, 0);
        failed(Scene.NO_HOTEL, INDEX, "dinner", 2, SHORTS, 0, 3, 0);
        refusedOfFaults(Scene.NO_HOTEL, STATE, "dinner", 2, SHORTS, 0, 2, 0);
        refusedOfFaults(Scene.NO_HOTEL, STATE, "dinner", 1, INTS, 6, 0, 0);
        // The pairs of sheet 2 in LIVELY: 7 and -1, 300 and 8; from 1 on: -1 and 300, 8 and 9.
        refusedOfFaults(Scene.LIVELY, OUTSIDE, "dinner", 2, SHORTS, 0, 2, 0);
        failed(Scene.LIVELY, INDEX, "dinner", 2, SHORTS, 0, 3, 0);
    }

    private static void orderInHowItShouldDawn() {
        refused(Scene.LIVELY, UNKNOWN, "softly", 4, 9);
        refused(Scene.LIVELY, UNKNOWN, "softly", -1, -2);
        refused(Scene.LIVELY, OUTSIDE, "softly", 3, 9);
        refused(Scene.LIVELY, OUTSIDE, "softly", 3, -2);
        refused(Scene.LIVELY, STATE, "softly", 3, 8);
        refused(Scene.LIVELY, STATE, "softly", 3, -1);
        refused(Scene.LIVELY, UNKNOWN, "just", 4, 7, 55);
        refused(Scene.LIVELY, UNKNOWN, "just", -1, -1, -1);
        refused(Scene.LIVELY, OUTSIDE, "just", 3, 7, 55);
        refused(Scene.NO_HOTEL, OUTSIDE, "apart", 6);
        refused(Scene.NO_HOTEL, OUTSIDE, "apart", -2);
        refused(Scene.NO_HOTEL, STATE, "apart", -1);
        refused(Scene.NO_HOTEL, STATE, "apart", 5);
        refused(Scene.NO_HOTEL, OUTSIDE, "best", 6);
        refused(Scene.NO_HOTEL, OUTSIDE, "best", -3);
        refused(Scene.NO_HOTEL, STATE, "best", -2);
        refused(Scene.NO_HOTEL, STATE, "best", 5);
    }

    private static void orderInWhatBefell() {
        refused(Scene.CROWDED, UNKNOWN, "reading", 1, 0, 2);
        refused(Scene.CROWDED, UNKNOWN, "reading", 0, 6, 2);
        refused(Scene.CROWDED, UNKNOWN, "reading", -1, 0, 0);
        refused(Scene.CROWDED, UNKNOWN, "reading", 0, -1, 0);
        refused(Scene.CROWDED, OUTSIDE, "reading", 0, 0, 2);
        refused(Scene.CROWDED, OUTSIDE, "reading", 0, 0, -1);
        refused(Scene.CROWDED, FULL, "reading", 0, 0, 0);
        refused(Scene.CROWDED, FULL, "reading", 0, 5, 1);
        refused(Scene.LIVELY, UNKNOWN, "reading", 5, 3, 2);
    }

    private static void orderInSheets() {
        refusedOfFaults(Scene.LIVELY, UNKNOWN, "sheet", 4, 3, -1);
        refusedOfFaults(Scene.LIVELY, UNKNOWN, "sheet", -1, -1, 61);
        refusedOfFaults(Scene.LIVELY, OUTSIDE, "sheet", 0, 3, -1);
        refusedOfFaults(Scene.LIVELY, OUTSIDE, "sheet", 0, -1, -1);
        refusedOfFaults(Scene.LIVELY, OUTSIDE, "sheet", 0, BYTES, 61);
        failed(Scene.LIVELY, SIZE, "sheet", 0, BYTES, -1);
        refusedOfFaults(Scene.LIVELY, UNKNOWN, "put", 4, -1, 5);
        failed(Scene.LIVELY, NULL, "put", 3, -1, 5);
        failed(Scene.LIVELY, INDEX, "put", 2, -1, 5);
        refusedOfFaults(Scene.LIVELY, UNKNOWN, "copy", 4, -1, 3, -1, -1);
        refusedOfFaults(Scene.LIVELY, UNKNOWN, "copy", 3, -1, 4, -1, -1);
        failed(Scene.LIVELY, NULL, "copy", 3, -1, 0, -1, -1);
        failed(Scene.LIVELY, NULL, "copy", 0, -1, 3, -1, -1);
        failed(Scene.LIVELY, NULL, "copy", 3, 0, 3, 0, 0);
        failed(Scene.LIVELY, CAST, "copy", 0, -1, 1, -1, -1);
        failed(Scene.LIVELY, CAST, "copy", 1, 0, 2, 0, 0);
        failed(Scene.LIVELY, CAST, "copy", 2, 0, 0, 0, 99);
        failed(Scene.LIVELY, INDEX, "copy", 2, -1, 2, -1, -1);
    }

    private static void orderInParts() {
        refusedOfFaults(Scene.LIVELY, UNKNOWN, "as", 4, 3);
        refusedOfFaults(Scene.LIVELY, UNKNOWN, "as", -1, -1);
        refusedOfFaults(Scene.LIVELY, UNKNOWN, "as", 4, 2);
        refusedOfFaults(Scene.LIVELY, OUTSIDE, "as", 0, 3);
        refusedOfFaults(Scene.LIVELY, OUTSIDE, "as", 0, -1);
        failed(Scene.LIVELY, CAST, "as", 0, 2);
        refused(Scene.LIVELY, UNKNOWN, "tell", 4);
        refused(Scene.LIVELY, UNKNOWN, "bow", 4);
        refused(Scene.LIVELY, UNKNOWN, "lose", 4);
        refused(Scene.LIVELY, OUTSIDE, "many", 5);
    }

    /** "FAULTS are the machine's: 1 NULL, 2 CAST, 3 INDEX, 4 SIZE; it answers -10 less it; fault() tells it." */
    private static void faultsAnswerTenLess() {
        Run run = new Run(check, "faults").row(0, BYTES, 1, 2);
        run.due(-11, "put", 1, 0, 0).fault(1);
        run.due(-12, "hotel", 0, INTS, 0, 0).fault(2);
        run.due(-13, "put", 0, 2, 0).fault(3);
        run.due(-14, "sheet", 0, BYTES, -1).fault(4);
        run.due(1, "put", 0, 1, 0).fault(0);
    }

    /** "LOST, where a long is answered, as for refusals." */
    private static void lostWhereALongIsAnswered() {
        Scene.LIVELY.idle(check, LOST, 0, "cell", 4, 0, BYTES);
        Scene.LIVELY.idle(check, LOST, 0, "cell", -1, 0, BYTES);
        Scene.LIVELY.idle(check, LOST, 0, "cell", 0, 0, 3);
        Scene.LIVELY.idle(check, LOST, 0, "cell", 3, -1, 3);
        Scene.LIVELY.idle(check, LOST, 0, "cell", 0, 0, -1);
        Scene.LIVELY.idle(check, LOST, 2, "cell", 0, -1, SHORTS);
        Scene.LIVELY.idle(check, LOST, 1, "cell", 3, -1, SHORTS);
        Scene.LIVELY.idle(check, LOST, 3, "cell", 0, 26, BYTES);
        Scene.LIVELY.idle(check, LOST, STAYS, "odds", 4, 0);
        Scene.LIVELY.idle(check, LOST, STAYS, "odds", 0, 2);
    }

    /** "INDEX (of cells from i on also where i is not 0 .. how many there are, if none of them is taken, too)." */
    private static void cellsFromIOnInHotel() {
        for (int i : new int[] {-1, 27, Run.MIN, Run.MAX}) {
            failed(Scene.LIVELY, INDEX, "hotel", 0, BYTES, i, 0);
            failed(Scene.LIVELY, INDEX, "hotel", 0, BYTES, i, 1);
        }
        for (int i : new int[] {0, 1, 25, 26}) {
            refusedOfFaults(Scene.LIVELY, -100, "hotel", 0, BYTES, i, 0);
        }
        // 26 cells: just all from 1 on, 1 more; just all from 25 on, 1 more; from 26 on none, 1 more.
        int[][] fits = {{1, 25}, {25, 1}, {26, 0}};
        for (int[] f : fits) {
            refusedOfFaults(Scene.LIVELY, -100, "hotel", 0, BYTES, f[0], f[1]);
            failed(Scene.LIVELY, INDEX, "hotel", 0, BYTES, f[0], f[1] + 1);
            // i and n together wrap around.
            failed(Scene.LIVELY, INDEX, "hotel", 0, BYTES, f[0], Run.MAX);
        }
        Run run = new Run(check, "a row of 0 cells").row(0, BYTES);
        run.due(-100, "hotel", 0, BYTES, 0, 0).due(INDEX, "hotel", 0, BYTES, 1, 0).due(INDEX, "hotel", 0, BYTES, -1, 0);
        run.due(INDEX, "hotel", 0, BYTES, 0, 1);
    }

    private static void cellsFromIOnInDinner() {
        for (int i : new int[] {-1, 7, Run.MIN, Run.MAX}) {
            failed(Scene.LIVELY, INDEX, "dinner", 1, INTS, i, 0, 0);
            failed(Scene.LIVELY, INDEX, "dinner", 1, INTS, i, 1, 0);
        }
        for (int i : new int[] {0, 1, 5, 6}) {
            refusedOfFaults(Scene.LIVELY, 8, "dinner", 1, INTS, i, 0, 0);
        }
        // 6 cells are three pairs from 0 on, two from 2 on; from 1 on two are there, from 5 on none.
        refusedOfFaults(Scene.LIVELY, NONE, "dinner", 1, INTS, 0, 3, 1);
        failed(Scene.LIVELY, INDEX, "dinner", 1, INTS, 0, 4, 1);
        failed(Scene.LIVELY, INDEX, "dinner", 1, INTS, 1, 3, 1);
        refusedOfFaults(Scene.LIVELY, NONE, "dinner", 1, INTS, 2, 2, 1);
        failed(Scene.LIVELY, INDEX, "dinner", 1, INTS, 2, 3, 1);
        refusedOfFaults(Scene.LIVELY, NONE, "dinner", 1, INTS, 4, 1, 1);
        failed(Scene.LIVELY, INDEX, "dinner", 1, INTS, 5, 1, 1);
        refusedOfFaults(Scene.LIVELY, NONE, "dinner", 1, INTS, 6, 0, 1);
        failed(Scene.LIVELY, INDEX, "dinner", 1, INTS, 6, 1, 1);
        failed(Scene.LIVELY, INDEX, "dinner", 1, INTS, Run.MAX, 20, 1);
        failed(Scene.LIVELY, INDEX, "dinner", 1, INTS, -2, 1, 1);
    }

    private static void cellsFromIOnInCopy() {
        for (int i : new int[] {-1, 7, Run.MIN, Run.MAX}) {
            failed(Scene.LIVELY, INDEX, "copy", 1, i, 1, 0, 0);
            failed(Scene.LIVELY, INDEX, "copy", 1, 0, 1, i, 0);
        }
        for (int i : new int[] {0, 1, 5, 6}) {
            refusedOfFaults(Scene.LIVELY, 0, "copy", 1, i, 1, 0, 0);
            refusedOfFaults(Scene.LIVELY, 0, "copy", 1, 0, 1, i, 0);
        }
    }

    /** "NONE is -9." */
    private static void noneIsMinusNine() {
        Run run = new Run(check, "NONE").hotel("h2;m190");
        run.due(-9, "give", 0, 0).due(-9, "softly", 0, -1).due(-9, "best", 0).due(-9, "apart", 5);
        run.dinner(-9, 1).dinner(-9, 11);
    }

    /** "Sets are told as bits (bit k for number k)." */
    private static void setsAreBits() {
        for (int k = 0; k < 6; k++) {
            Run run = new Run(check, "sets").hotel("h92;m120;m121;m122;m123;m124;m125");
            run.dinner(0, 0).dinner(0, 2).dinner(1 << k, 2, k, 0).go("word", 1, 1);
            run.dinner(1 << k, 0, k, 1, k, 1).dinner(0, 2, k, 1, k, 1).dinner(63 - (1 << k), 2, everyoneBut(k));
        }
        Run run = new Run(check, "sets of numbers").hotel("h51;m110");
        run.due(0b11_1111_1110, "bearings", 0).due(0b111, "kinds", 0).due(0b11_1111_1110, "hintings", 0);
        run.go("reading", 0, 0, 1).due(0b1_1110, "bearings", 0).due(0b111, "kinds", 0);
        run.due(0b11_1111_1100, "hintings", 0);
    }

    private static int[] everyoneBut(int k) {
        int[] pairs = new int[10];
        int at = 0;
        for (int j = 0; j < 6; j++) {
            if (j != k) {
                pairs[at] = j;
                at += 2;
            }
        }
        return pairs;
    }

    /** "Quotients are cut." */
    private static void quotientsAreCut() {
        int[] halves = {0, 1, 1, 2, 2, 3, 3, 4, 4};
        Run run = new Run(check, "half").hotel("h1;b990");
        for (int hint = 1; hint <= 9; hint++) {
            run.go("word", 0, hint).due(halves[hint - 1], "weighs", 0, 0);
        }
    }

    /** "Shares are told as upper and lower number (above 0) in least terms." */
    private static void sharesAreInLeastTerms() {
        String[] texts = {"h9;m110", "h1;m110", "h99;m110", "h91;m110", "h11;m110", "h999;m110", "h991;m110", "h911;m110",
            "h111;m110", "h9999;m110", "h9991;m110", "h9911;m110", "h9111;m110", "h1111;m110", "h99999;m110",
            "h99991;m110", "h99911;m110", "h99111;m110", "h91111;m110", "h11111;m110"};
        int[][] due = {{0, 1}, {1, 1}, {0, 1}, {1, 2}, {1, 1}, {0, 1}, {1, 3}, {2, 3}, {1, 1}, {0, 1}, {1, 4}, {1, 2},
            {3, 4}, {1, 1}, {0, 1}, {1, 5}, {2, 5}, {3, 5}, {4, 5}, {1, 1}};
        for (int i = 0; i < texts.length; i++) {
            new Run(check, "odds, " + texts[i]).hotel(texts[i]).due(due[i][0], "odds", 0, 0).due(due[i][1], "odds", 0, 1);
        }
    }
}
