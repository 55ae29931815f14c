import java.util.Arrays;

/** Promise 12 and what block 2 says of a dinner, each sentence that names a boundary. */
public final class EdgeDinnerTest {
    private static final int UNKNOWN = Run.UNKNOWN, OUTSIDE = Run.OUTSIDE, STATE = Run.STATE, NONE = Run.NONE;
    private static final int NULL = Run.NULL, CAST = Run.CAST, INDEX = Run.INDEX;
    private static final int BYTES = Run.BYTES, SHORTS = Run.SHORTS, INTS = Run.INTS;
    private static final int[] ALL_WHATS = {0, 1, 2, 3, 4, 10, 11, 12, 13, 14, 15};
    private static final Check check = new Check("EdgeDinnerTest");

    public static void main(String[] args) {
        ofNoPairs();
        ofTwentyPairs();
        ofTwentyOne();
        fromHowAllIsNow();
        oneActBehindAnother();
        givenInIt();
        shockedInIt();
        nightsInIt();
        seatsInIt();
        nothingIsChanged();
        firstWrongNoSuchSign();
        firstWrongHeKnows();
        firstWrongIsTheFirst();
        firstWrongOfEachWhat();
        noneIsWrongOfSeatsAndNights();
        cameToKnowInIt();
        byTheirTableAlone();
        gatheredThen();
        ofASheetOutside();
        ofWhatOutside();
        faults();
        noHotel();
        secondOutside();
        nightsOutside();
        firstUnknown();
        pairByPair();
        refusedAheadOfFirstWrong();
        cellsOfEachLane();
        check.end();
    }

    private static Run hotel(String title, String text) {
        return new Run(check, title).hotel(text);
    }

    // ---- n

    private static void ofNoPairs() {
        int[] due = {8, NONE, 10, 0, 0, 1, 2, 0, 5, NONE, NONE};
        for (int w = 0; w < due.length; w++) {
            Scene.LIVELY.made(check, "no pairs").dinner(due[w], ALL_WHATS[w]).fault(0);
        }
        Run run = Scene.LIVELY.made(check, "no pairs at the end of a row").due(8, "dinner", 1, INTS, 6, 0, 0);
        run.due(INDEX, "dinner", 1, INTS, 7, 0, 0).due(8, "dinner", 2, SHORTS, 5, 0, 0);
    }

    private static void ofTwentyPairs() {
        int[] pairs = new int[40];
        // Nineteen nights of none, and then a hint.
        Arrays.fill(pairs, 0);
        for (int p = 0; p < 19; p++) {
            pairs[2 * p + 1] = 10;
        }
        hotel("twenty", "h1;m110").dinner(1, 0, pairs).fault(0).dinner(1, 3, pairs).dinner(1, 10, pairs);
        hotel("nineteen", "h1;m110").dinner(0, 0, Arrays.copyOf(pairs, 38)).dinner(1, 0, Arrays.copyOfRange(pairs, 2, 40));
        pairs[39] = 1;
        hotel("the twentieth is wrong", "h1;m110").dinner(19, 1, pairs).dinner(-119, 0, pairs);
        pairs[39] = 5;
        hotel("the twentieth is outside", "h1;m110").dinner(OUTSIDE, 0, pairs);
        pairs[38] = 1;
        pairs[39] = 0;
        hotel("the twentieth is unknown", "h1;m110").dinner(UNKNOWN, 0, pairs);
        // Twenty pairs from 20 on, the last of 60 cells.
        Run run = hotel("of 60 cells", "h1;m190").due(1, "sheet", 2, SHORTS, 60);
        run.due(9, "dinner", 2, SHORTS, 20, 20, 1).fault(0).due(INDEX, "dinner", 2, SHORTS, 21, 20, 1).fault(3);
        run.due(-109, "dinner", 2, SHORTS, 0, 20, 0).due(1, "dinner", 2, SHORTS, 0, 9, 0);
    }

    /** "n (0 .. 20)". */
    private static void ofTwentyOne() {
        for (int n : Run.outOf(0, 20)) {
            Scene.LIVELY.idle(check, OUTSIDE, 0, "dinner", 1, INTS, 0, n, 0);
            Run run = hotel("n " + n, "h1;m190").due(1, "sheet", 2, BYTES, 60);
            run.due(OUTSIDE, "dinner", 2, BYTES, 0, n, 0).fault(0);
        }
    }

    // ---- the acts

    /** "From how all is now". */
    private static void fromHowAllIsNow() {
        Run run = hotel("now", "h31;m350;m291").dinner(0, 0, 0, 1, 0, 1).go("give", 0, 0).dinner(0, 0, 0, 1);
        run.dinner(1, 0, 0, 1, 0, 1).go("nights", 1).dinner(0, 0, 0, 1, 0, 1).go("give", 1, 0).dinner(1, 0, 0, 1, 0, 1);
        run.dinner(2, 2, 1, 0).go("word", 0, 2).dinner(0, 2, 1, 0).go("give", 1, 0).go("give", 1, 0).dinner(1, 0);
        run.go("arrive", 0, 1, 1, 1).dinner(5, 0, 2, 1).dinner(1, 11, 2, 1).go("seat", 2, 2).dinner(0, 11, 2, 1);
    }

    private static void oneActBehindAnother() {
        // 3, then 1 less, then 2 more: not 5, and not 2.
        Run run = hotel("one behind another", "h32;m990").dinner(4, 10, 0, 0, 1, 10, 0, 1).dinner(5, 10, 1, 10, 0, 0, 0, 1);
        run.dinner(2, 10, 0, 0, 9, 10, 0, 1);
    }

    /** "A GUEST and 0 .. 4: that SIGN is GIVEN to him". */
    private static void givenInIt() {
        for (int s = 0; s <= 4; s++) {
            for (int k = 0; k <= 5; k++) {
                Run run = hotel("sign " + s + " to " + k, "h13579;m990;m981;m972;m963;m954;m945");
                int weight = 1 + 2 * s;
                run.dinner(weight, 10 + k, k, s).dinner(0, 2, k, s);
                run.dinner(weight >= 9 - k ? 1 << k : 0, 0, k, s).dinner(0, 10 + (k + 1) % 6, k, s);
            }
        }
    }

    private static void shockedInIt() {
        Run run = hotel("shocked in it", "h567;m590").dinner(0, 2, 0, 0).dinner(1, 2, 0, 1).dinner(0, 10, 0, 1);
        run.dinner(5, 10, 0, 0, 0, 1).dinner(1, 2, 0, 1, 9, 10).dinner(1, 0, 0, 1, 0, 0, 0, 0);
        run.dinner(1, 2, 0, 1, 0, 0, 0, 0).dinner(NONE, 1, 0, 1, 0, 1).dinner(0, 3, 0, 1).dinner(0, 4, 0, 1).shocked(0);
        run.go("give", 1, 0).dinner(1, 2).dinner(1, 2, 0, 0);
    }

    /** "0 .. 9 and 10: so many NIGHTS". */
    private static void nightsInIt() {
        for (int n = 0; n <= 9; n++) {
            Run run = hotel(n + " nights", "h5;m990;m531;m992").go("give", 0, 0).go("give", 0, 1);
            run.dinner(Math.max(0, 5 - n), 10, n, 10).dinner(5, 11, n, 10).dinner(0, 12, n, 10);
            // Nothing below 0 is left over.
            run.dinner(5, 12, n, 10, 2, 0).dinner(2, 0, n, 10).dinner(NONE, 1, n, 10).due(0, "many", 2);
        }
    }

    /** "A GUEST and 20 .. 25: he sits at the TABLE that is 20 less." */
    private static void seatsInIt() {
        for (int table = 0; table <= 5; table++) {
            Run run = hotel("to table " + table, "h1;m110;m190;m190;m190;m190;m190").go("seat", 1, 1).go("seat", 2, 2);
            run.go("seat", 3, 3).go("seat", 4, 4).go("seat", 5, 5).go("seat", 0, (table + 1) % 6);
            for (int k = 1; k <= 5; k++) {
                run.dinner(k == table ? 1 : 0, 10 + k, 0, 20 + table, 0, 0);
                // Behind it, it is too late.
                run.dinner(k == (table + 1) % 6 ? 1 : 0, 10 + k, 0, 0, 0, 20 + table);
            }
        }
        Run run = hotel("others to him", "h1;m110;m111;m121").dinner(1, 0, 0, 0).dinner(3, 0, 1, 20, 0, 0);
        run.dinner(7, 0, 2, 20, 1, 20, 0, 0).dinner(7, 0, 0, 21, 0, 0).dinner(1, 0, 0, 25, 0, 0);
    }

    /** "(nothing is changed)". */
    private static void nothingIsChanged() {
        int[][] rows = {{}, {0, 0, 1, 3, 2, 10}, {0, 0, 0, 0, 0, 0}, {0, 1, 1, 1, 2, 1}, {9, 10},
            {0, 25, 1, 25, 2, 25, 3, 25}, {3, 0}, {0, 5}, {0, 0, 4, 0}};
        for (int[] pairs : rows) {
            for (int what : ALL_WHATS) {
                Run run = Scene.LIVELY.made(check, Arrays.toString(pairs) + ", what " + what).row(1, INTS, pairs);
                String state = run.state();
                run.go("dinner", 1, INTS, 0, pairs.length / 2, what).still(state);
            }
        }
    }

    // ---- FIRST WRONG

    /** "There is no such SIGN": the last there is, and the next. */
    private static void firstWrongNoSuchSign() {
        for (int signs = 1; signs <= 5; signs++) {
            Run run = hotel(signs + " signs", "h" + "11111".substring(0, signs) + ";m190");
            for (int s = 0; s <= 4; s++) {
                run.dinner(s < signs ? NONE : 0, 1, 0, s).dinner(s < signs ? 0 : -100, 0, 0, s);
            }
            run.dinner(OUTSIDE, 1, 0, 5).fault(0);
        }
    }

    /** "He KNOWS": now, by a hint in it, by his table in it; not he who is only shocked, or lacks 1. */
    private static void firstWrongHeKnows() {
        Run run = hotel("he knows", "h19;m120;m120;m191").dinner(NONE, 1, 0, 0).dinner(NONE, 1, 0, 0, 0, 0);
        run.dinner(2, 1, 0, 0, 0, 0, 0, 0).dinner(NONE, 1, 0, 1, 0, 0, 0, 0).dinner(3, 1, 0, 1, 0, 0, 0, 0, 0, 1);
        run.dinner(NONE, 1, 1, 0, 0, 0).dinner(NONE, 1, 1, 0, 0, 0, 0, 20).dinner(3, 1, 1, 0, 0, 0, 0, 0, 1, 0);
        run.dinner(NONE, 1, 1, 0, 0, 0, 2, 0).go("give", 0, 0).dinner(NONE, 1, 0, 0).go("give", 0, 0).dinner(0, 1, 0, 0);
        run.dinner(1, 1, 2, 0, 0, 1).dinner(NONE, 1, 1, 0);
        Run shocked = hotel("he is shocked", "h92;m220").go("give", 0, 0).dinner(NONE, 1, 0, 1).dinner(1, 1, 0, 1, 0, 1);
        shocked.dinner(1, 0, 0, 1).go("give", 1, 0).dinner(0, 1, 0, 1);
    }

    private static void firstWrongIsTheFirst() {
        Run run = hotel("the first", "h1;m110;m191").dinner(0, 1, 1, 1, 1, 1).dinner(1, 1, 1, 0, 1, 1, 1, 2);
        run.dinner(1, 1, 0, 0, 0, 0, 1, 4).dinner(1, 1, 1, 0, 1, 4, 0, 0, 0, 0).dinner(NONE, 1, 1, 0, 0, 0, 1, 0);
    }

    /** "Of one with a FIRST WRONG: -100 less that (but what 1)". */
    private static void firstWrongOfEachWhat() {
        for (int wrong = 0; wrong < 3; wrong++) {
            int[] pairs = {1, 0, 1, 0, 1, 0};
            pairs[2 * wrong + 1] = 4;
            Run run = hotel("wrong at " + wrong, "h1;m110;m190");
            for (int what : ALL_WHATS) {
                run.dinner(what == 1 ? wrong : -100 - wrong, what, pairs);
            }
            run.fault(0);
        }
    }

    private static void noneIsWrongOfSeatsAndNights() {
        Run run = hotel("one who knows", "h1;m110;m190").go("give", 0, 0).dinner(NONE, 1, 0, 20).dinner(NONE, 1, 0, 25);
        run.dinner(1, 0, 0, 25).dinner(NONE, 1, 9, 10).dinner(NONE, 1, 0, 10).dinner(NONE, 1, 1, 23, 3, 10, 1, 0, 0, 22);
    }

    // ---- what

    /** "How many came to KNOW in it": not those who knew ahead. */
    private static void cameToKnowInIt() {
        Run run = hotel("came to know", "h1;m110;m111;m112;m193").dinner(0, 3).dinner(0, 3, 3, 0).dinner(1, 3, 0, 0);
        run.dinner(2, 3, 0, 0, 1, 0).dinner(3, 3, 0, 0, 2, 0, 1, 0).go("give", 0, 0).dinner(0, 3).dinner(1, 3, 1, 0);
        run.dinner(2, 3, 1, 0, 2, 0).dinner(3, 0, 1, 0).dinner(7, 0, 2, 0, 1, 0);
    }

    /** "How many of these by their TABLE alone". */
    private static void byTheirTableAlone() {
        Run run = hotel("by their table", "h1;m110;m110;m120;m131;m112").dinner(0, 4).dinner(2, 4, 0, 0).dinner(3, 3, 0, 0);
        run.dinner(0, 4, 4, 0).dinner(1, 3, 4, 0).dinner(2, 4, 0, 0, 4, 0).dinner(4, 3, 0, 0, 4, 0);
        run.dinner(3, 4, 4, 20, 0, 0).dinner(4, 4, 3, 20, 4, 20, 0, 0).dinner(5, 3, 3, 20, 4, 20, 0, 0);
        // A hint goes ahead, but it is the table that lets it dawn; two who dawn by hints dawn by no table.
        run.dinner(2, 4, 1, 25, 3, 0, 3, 20, 2, 0, 0, 0).dinner(0, 4, 1, 25, 2, 25, 0, 0, 1, 0);
        run.dinner(1, 4, 1, 25, 2, 25, 0, 0, 2, 0, 1, 0).dinner(2, 3, 1, 25, 2, 25, 0, 0, 1, 0);
        run.go("give", 0, 0).dinner(0, 4).dinner(0, 3);
    }

    /** "How much GUEST k has GATHERED then (10 and k; NONE: there is no such GUEST)". */
    private static void gatheredThen() {
        for (int guests = 1; guests <= 6; guests++) {
            Run run = hotel(guests + " guests", "h3;m990;m991;m992;m993;m994;m995".substring(0, 2 + 5 * guests));
            for (int k = 0; k <= 5; k++) {
                run.dinner(k < guests ? 0 : NONE, 10 + k);
                run.dinner(k == guests - 1 ? 3 : k < guests ? 0 : NONE, 10 + k, guests - 1, 0);
            }
            run.due(OUTSIDE, "dinner", 1, INTS, 0, 0, 9).due(OUTSIDE, "dinner", 1, INTS, 0, 0, 16);
        }
        hotel("one who knows", "h3;m910").dinner(3, 10, 0, 0, 9, 10);
    }

    // ---- refusals and faults

    /** "UNKNOWN: SHEET; OUTSIDE: lane". */
    private static void ofASheetOutside() {
        for (int sheet : Run.outOf(0, 3)) {
            Scene.LIVELY.idle(check, UNKNOWN, 0, "dinner", sheet, INTS, 0, 3, 0);
        }
        for (int lane : Run.outOf(0, 2)) {
            Scene.LIVELY.idle(check, OUTSIDE, 0, "dinner", 1, lane, 0, 3, 0);
        }
    }

    /** "What (0 .. 4, 10 .. 15)". */
    private static void ofWhatOutside() {
        for (int what : new int[] {-1, 5, 6, 7, 8, 9, 16, Run.MIN, Run.MAX}) {
            Scene.LIVELY.idle(check, OUTSIDE, 0, "dinner", 1, INTS, 0, 3, what);
        }
        // 0: 1, and 1 more, and 2 less; 1: 2, and 4 more, and 2 less.
        int[] due = {8, NONE, 10, 0, 0, 0, 4, 0, 5, NONE, NONE};
        for (int w = 0; w < due.length; w++) {
            Scene.LIVELY.idle(check, due[w], 0, "dinner", 1, INTS, 0, 3, ALL_WHATS[w]);
        }
    }

    /** "FAULTS CAST, NULL, INDEX". */
    private static void faults() {
        int[] lanes = {BYTES, INTS, SHORTS};
        for (int sheet = 0; sheet < 3; sheet++) {
            for (int lane = BYTES; lane <= INTS; lane++) {
                boolean own = lane == lanes[sheet];
                Scene.LIVELY.idle(check, own ? 8 : CAST, own ? 0 : 2, "dinner", sheet, lane, 0, 0, 0);
            }
        }
        for (int lane = BYTES; lane <= INTS; lane++) {
            Scene.LIVELY.idle(check, NULL, 1, "dinner", 3, lane, 0, 0, 0);
        }
        Scene.LIVELY.idle(check, INDEX, 3, "dinner", 1, INTS, 0, 4, 0);
        Scene.LIVELY.idle(check, INDEX, 3, "dinner", 1, INTS, -1, 3, 0);
        Scene.LIVELY.idle(check, INDEX, 3, "dinner", 1, INTS, 1, 3, 0);
    }

    /** "STATE: there is no HOTEL". */
    private static void noHotel() {
        for (int what : ALL_WHATS) {
            Scene.NO_HOTEL.idle(check, STATE, 0, "dinner", 1, INTS, 0, 3, what);
        }
        Scene.NO_HOTEL.idle(check, STATE, 0, "dinner", 1, INTS, 0, 0, 0);
        Scene.NO_HOTEL.idle(check, STATE, 0, "dinner", 2, SHORTS, 0, 2, 0);
    }

    /** "OUTSIDE: the second is none of 0 .. 4, 10, 20 .. 25". */
    private static void secondOutside() {
        for (int second = -3; second <= 30; second++) {
            boolean sign = second >= 0 && second <= 4;
            boolean table = second >= 20 && second <= 25;
            boolean inside = sign || second == 10 || table;
            hotel("second", "h11111;m190").dinner(inside ? NONE : OUTSIDE, 1, 0, second).fault(0);
        }
        for (int second : new int[] {Run.MIN, Run.MAX, 256, 266, 65536, -246}) {
            hotel("second", "h11111;m190").dinner(OUTSIDE, 1, 0, second).fault(0).dinner(OUTSIDE, 1, 1, second);
        }
    }

    /** "It is 10 and the first is not 0 .. 9". */
    private static void nightsOutside() {
        for (int first : Run.outOf(0, 9)) {
            hotel("nights", "h1;m190").dinner(OUTSIDE, 1, first, 10).fault(0);
        }
        for (int first = 0; first <= 9; first++) {
            // More nights than there are guests.
            hotel("nights", "h1;m190").dinner(NONE, 1, first, 10);
        }
    }

    /** "UNKNOWN: the first is no GUEST (of all but 10)". */
    private static void firstUnknown() {
        for (int guests = 1; guests <= 6; guests++) {
            Run run = hotel(guests + " guests", "h11111;m990;m991;m992;m993;m994;m995".substring(0, 6 + 5 * guests));
            for (int second : new int[] {0, 4, 20, 25}) {
                run.dinner(NONE, 1, 0, second).dinner(NONE, 1, guests - 1, second);
                for (int first : Run.outOf(0, guests - 1)) {
                    run.dinner(UNKNOWN, 1, first, second).fault(0);
                }
            }
        }
        hotel("no such sign, no guest", "h1;m190").dinner(UNKNOWN, 1, 1, 4).dinner(0, 1, 0, 4);
    }

    /** "Pair by pair". */
    private static void pairByPair() {
        Run run = hotel("pair by pair", "h1;m190").dinner(OUTSIDE, 1, 1, 5).dinner(OUTSIDE, 1, -1, 9);
        run.dinner(UNKNOWN, 1, 1, 0, 0, 5).dinner(OUTSIDE, 1, 0, 5, 1, 0).dinner(UNKNOWN, 1, 1, 20, 10, 10);
        run.dinner(OUTSIDE, 1, 10, 10, 1, 20).dinner(UNKNOWN, 1, 0, 0, 0, 0, 1, 25, 0, 26);
        run.dinner(OUTSIDE, 1, 0, 0, 0, 26, 1, 25);
    }

    private static void refusedAheadOfFirstWrong() {
        for (int what : ALL_WHATS) {
            Run run = hotel("refused", "h1;m110").dinner(UNKNOWN, what, 0, 4, 1, 0).dinner(OUTSIDE, what, 0, 4, 0, 5);
            run.dinner(OUTSIDE, what, 0, 0, 0, 0, 10, 10).dinner(UNKNOWN, what, 0, 0, 0, 0, -1, 20);
        }
    }

    private static void cellsOfEachLane() {
        for (int lane = BYTES; lane <= INTS; lane++) {
            Run run = hotel("lane " + lane, "h12;m990").row(2, lane, 0, 1, 0, 0, 256, 266, 65536, 65556);
            run.due(2, "dinner", 2, lane, 0, 1, 10).due(3, "dinner", 2, lane, 0, 2, 10);
            // 256 and 266 are 0 nights in a row of bytes; 65536 and 65556 are a seat in a row of shorts, too.
            run.due(lane == BYTES ? 3 : OUTSIDE, "dinner", 2, lane, 0, 3, 10);
            run.due(lane == INTS ? OUTSIDE : 0, "dinner", 2, lane, 6, 1, 10);
        }
    }
}
