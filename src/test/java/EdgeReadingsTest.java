/** Block 4 and promises 17 to 22, each sentence that names a boundary. */
public final class EdgeReadingsTest {
    private static final int UNKNOWN = Run.UNKNOWN, OUTSIDE = Run.OUTSIDE, FULL = Run.FULL, NONE = Run.NONE;
    private static final long LOST = Run.LOST;
    private static final int STAYS = 2;
    private static final int ALL_DIGITS = 0b11_1111_1110, ALL_KINDS = 0b111;
    private static final Check check = new Check("EdgeReadingsTest");

    public static void main(String[] args) {
        readingsEightAndANinth();
        readingsNumberedByHowMany();
        readingChangesNothingElse();
        readingRefused();
        readingOfAnyone();
        backNoneAndAll();
        backTheLast();
        backOutside();
        bearingsWithoutReadings();
        bearingsOfEachWeight();
        bearingsOfSeveral();
        bearingsNothingExplains();
        bearingsInPlaceOfHisAlone();
        kindsOfEachHint();
        kindsNothingExplains();
        hintingsOfEachKind();
        hintingsNothingExplains();
        setsUnknown();
        setsChangeNothing();
        setsByWhatIsNow();
        oddsOfNoneAndAll();
        oddsJustWhatHeBears();
        oddsAtTheEdges();
        check.end();
    }

    private static Run hotel(String text) {
        return new Run(check, text).hotel(text);
    }

    // ---- promise 17

    /** "READINGS, 8 at most"; "FULL". */
    private static void readingsEightAndANinth() {
        Run run = hotel("h51;m340;c440");
        for (int r = 0; r < 8; r++) {
            run.due(r, "many", 4).due(r, "reading", r % 2, r / 2 % 2, r % 2 == 0 && r / 2 % 2 == 0 ? 1 : 0);
        }
        run.due(8, "many", 4).due(FULL, "reading", 0, 0, 1).due(FULL, "reading", 1, 1, 0).due(8, "many", 4);
        // The ninth is not there: it would leave nothing.
        run.due(0b11110, "bearings", 0).due(FULL, "reading", 0, 0, 0).due(0b11110, "bearings", 0);
        run.due(7, "back", 1).due(7, "reading", 0, 0, 1).due(FULL, "reading", 0, 0, 1);
        Scene.CROWDED.idle(check, FULL, STAYS, "reading", 0, 0, 0);
        Scene.CROWDED.idle(check, FULL, STAYS, "reading", 0, 5, 1);
    }

    /** "Numbered by how many there are". */
    private static void readingsNumberedByHowMany() {
        Run run = hotel("h5;m340;m440").due(0, "reading", 0, 0, 1).due(1, "reading", 0, 0, 1).due(2, "reading", 0, 1, 1);
        run.due(1, "back", 2).due(1, "reading", 0, 1, 1).due(0, "back", 2).due(0, "reading", 0, 0, 1);
        run.due(1, "leave", 1).due(0, "reading", 0, 0, 1).hotel("h5;m340").due(0, "reading", 0, 0, 1);
    }

    private static void readingChangesNothingElse() {
        Run run = Scene.LIVELY.made(check, "reading");
        run.due(2, "reading", 4, 3, 0).fault(STAYS).due(2, "back", 1).still(Scene.LIVELY.state(check));
        // A sign that is read is not given.
        hotel("h9;m110;m990").due(0, "reading", 0, 0, 1).due(1, "reading", 0, 1, 0).gathered(0, 0).shocked(0, 0).knows(0, 0);
    }

    /** "UNKNOWN: SIGN, GUEST; OUTSIDE: shocked (0, 1)". */
    private static void readingRefused() {
        for (int s : Run.outOf(0, 4)) {
            Scene.LIVELY.idle(check, UNKNOWN, STAYS, "reading", s, 0, 0);
        }
        for (int k : Run.outOf(0, 3)) {
            Scene.LIVELY.idle(check, UNKNOWN, STAYS, "reading", 0, k, 0);
        }
        for (int shocked : Run.outOf(0, 1)) {
            Scene.LIVELY.idle(check, OUTSIDE, STAYS, "reading", 0, 0, shocked);
            Scene.LIVELY.idle(check, OUTSIDE, STAYS, "reading", 4, 3, shocked);
        }
        for (int shocked = 0; shocked <= 1; shocked++) {
            Scene.LIVELY.made(check, "just inside").due(2, "reading", 4, 3, shocked).due(3, "reading", 0, 0, shocked);
        }
    }

    private static void readingOfAnyone() {
        Run run = hotel("h21;m110").due(NONE, "give", 0, 0).due(0, "reading", 0, 0, 0).due(0b11_1111_1100, "bearings", 0);
        run.due(1, "give", 1, 0).due(1, "reading", 1, 0, 0).due(0b11_1111_1100, "bearings", 0);
    }

    // ---- promise 18

    /** "The last n READINGS (0 .. as many as there are) are taken back: how many are left." */
    private static void backNoneAndAll() {
        hotel("h5;m340").due(0, "back", 0).due(OUTSIDE, "back", 1);
        for (int there = 1; there <= 8; there++) {
            for (int n = 0; n <= there; n++) {
                Run run = hotel("h5;m340");
                for (int r = 0; r < there; r++) {
                    run.due(r, "reading", 0, 0, 1);
                }
                run.due(OUTSIDE, "back", there + 1).due(OUTSIDE, "back", -1).due(there, "many", 4);
                run.due(there - n, "back", n).due(there - n, "many", 4);
                run.due(n == there ? ALL_DIGITS : 0b11110, "bearings", 0).due(OUTSIDE, "back", there - n + 1);
            }
        }
    }

    private static void backTheLast() {
        Run run = hotel("h5678;m990").due(0, "reading", 0, 0, 0).due(1, "reading", 1, 0, 0).due(2, "reading", 2, 0, 0);
        run.due(3, "reading", 3, 0, 0).due(0b11_0000_0000, "bearings", 0);
        run.due(3, "back", 1).due(0b11_1000_0000, "bearings", 0);
        run.due(1, "back", 2).due(0b11_1110_0000, "bearings", 0).due(0, "back", 1).due(ALL_DIGITS, "bearings", 0);
    }

    private static void backOutside() {
        for (int n : Run.outOf(0, 2)) {
            Scene.LIVELY.idle(check, OUTSIDE, STAYS, "back", n);
        }
        for (int n : Run.outOf(0, 8)) {
            Scene.CROWDED.idle(check, OUTSIDE, STAYS, "back", n);
        }
        for (int n : Run.outOf(0, 0)) {
            Scene.NO_HOTEL.idle(check, OUTSIDE, STAYS, "back", n);
        }
        Scene.LIVELY.idle(check, 2, STAYS, "back", 0);
        Scene.NO_HOTEL.idle(check, 0, STAYS, "back", 0);
        Scene.LIVELY.made(check, "all").due(0, "back", 2).due(0, "many", 4).fault(STAYS);
        Scene.CROWDED.made(check, "all").due(0, "back", 8).due(0, "many", 4).fault(STAYS);
    }

    // ---- promise 19

    private static void bearingsWithoutReadings() {
        Run run = hotel("h9;m110;c220;b330");
        for (int k = 0; k < 3; k++) {
            run.due(ALL_DIGITS, "bearings", k).due(ALL_KINDS, "kinds", k);
        }
        run.due(ALL_DIGITS, "hintings", 0);
    }

    /** Shocked: he bears less than it weighs; not shocked: just as much, or more. */
    private static void bearingsOfEachWeight() {
        for (int kind = 0; kind <= 2; kind++) {
            for (int hint = 1; hint <= 9; hint++) {
                int weight = kind == 0 ? hint : kind == 1 ? hint - 1 : hint / 2;
                int below = 0;
                for (int bears = 1; bears <= 9; bears++) {
                    below += bears < weight ? 1 << bears : 0;
                }
                String text = "h" + hint + ";" + "mcb".charAt(kind) + "550";
                hotel(text).go("reading", 0, 0, 1).due(below, "bearings", 0);
                hotel(text).go("reading", 0, 0, 0).due(ALL_DIGITS - below, "bearings", 0);
            }
        }
    }

    private static void bearingsOfSeveral() {
        Run run = hotel("h369;m550").go("reading", 0, 0, 0).due(0b11_1111_1000, "bearings", 0).go("reading", 2, 0, 1);
        run.due(0b1_1111_1000, "bearings", 0).go("reading", 1, 0, 1).due(0b11_1000, "bearings", 0).go("back", 1);
        run.go("reading", 1, 0, 0).due(0b1_1100_0000, "bearings", 0);
        hotel("h56;m990").go("reading", 0, 0, 0).go("reading", 1, 0, 1).due(1 << 5, "bearings", 0);
    }

    /** READINGS that nothing explains. */
    private static void bearingsNothingExplains() {
        hotel("h5;m550").go("reading", 0, 0, 0).go("reading", 0, 0, 1).due(0, "bearings", 0).due(1, "back", 1)
            .due(0b11_1110_0000, "bearings", 0);
        hotel("h1;m550").go("reading", 0, 0, 1).due(0, "bearings", 0);
        hotel("h2;m550").go("reading", 0, 0, 1).due(0b10, "bearings", 0);
        hotel("h1;c550").go("reading", 0, 0, 1).due(0, "bearings", 0);
        hotel("h65;m550").go("reading", 0, 0, 0).go("reading", 1, 0, 1).due(0, "bearings", 0);
    }

    /** "In place of what it is alone, by which all READINGS are so": those of others by what the others are. */
    private static void bearingsInPlaceOfHisAlone() {
        Run so = hotel("h5;m340;m640").go("reading", 0, 0, 1).go("reading", 0, 1, 0);
        so.due(0b11110, "bearings", 0).due(0b11_1110_0000, "bearings", 1);
        Run not = hotel("h5;m640;m640").go("reading", 0, 0, 1).go("reading", 0, 1, 0);
        not.due(0b11110, "bearings", 0).due(0, "bearings", 1).due(0, "kinds", 1).due(0, "hintings", 0);
        Run other = hotel("h51;m640;m640").go("reading", 0, 0, 1).due(0, "bearings", 1).due(0, "kinds", 1);
        other.due(0, "hintings", 1).due(0b11110, "bearings", 0).due(0b11_1000_0000, "hintings", 0);
    }

    // ---- promises 20, 21

    private static void kindsOfEachHint() {
        for (int hint = 1; hint <= 9; hint++) {
            for (int bears = 1; bears <= 9; bears++) {
                int shocked = (hint > bears ? 1 : 0) + (hint - 1 > bears ? 2 : 0) + (hint / 2 > bears ? 4 : 0);
                for (char kind : "mcb".toCharArray()) {
                    String text = "h" + hint + ";" + kind + bears + "50";
                    hotel(text).go("reading", 0, 0, 1).due(shocked, "kinds", 0);
                    hotel(text).go("reading", 0, 0, 0).due(7 - shocked, "kinds", 0);
                }
            }
        }
        // Between them: a COLONEL alone.
        hotel("h59;m450").go("reading", 0, 0, 0).go("reading", 1, 0, 1).due(0b010, "kinds", 0);
        hotel("h5;m450").go("reading", 0, 0, 0).due(0b110, "kinds", 0);
    }

    private static void kindsNothingExplains() {
        hotel("h9;m350").go("reading", 0, 0, 0).due(0, "kinds", 0);
        hotel("h9;m450").go("reading", 0, 0, 0).due(0b100, "kinds", 0);
        hotel("h1;m150").go("reading", 0, 0, 1).due(0, "kinds", 0);
        hotel("h2;m150").go("reading", 0, 0, 1).due(0b001, "kinds", 0);
        hotel("h5;m350").go("reading", 0, 0, 1).go("reading", 0, 0, 0).due(0, "kinds", 0);
    }

    private static void hintingsOfEachKind() {
        for (int kind = 0; kind <= 2; kind++) {
            for (int bears = 1; bears <= 9; bears++) {
                int above = 0;
                for (int hint = 1; hint <= 9; hint++) {
                    int weight = kind == 0 ? hint : kind == 1 ? hint - 1 : hint / 2;
                    above += weight > bears ? 1 << hint : 0;
                }
                String text = "h55;" + "mcb".charAt(kind) + bears + "50";
                hotel(text).go("reading", 0, 0, 1).due(above, "hintings", 0);
                hotel(text).go("reading", 0, 0, 0).due(ALL_DIGITS - above, "hintings", 0);
            }
        }
        // The same sign with several guests.
        Run run = hotel("h5;m450;m650;c450").go("reading", 0, 0, 1).due(0b11_1110_0000, "hintings", 0);
        run.go("reading", 0, 1, 0).due(0b110_0000, "hintings", 0).go("reading", 0, 2, 0).due(0b10_0000, "hintings", 0);
    }

    private static void hintingsNothingExplains() {
        hotel("h5;m950").go("reading", 0, 0, 1).due(0, "hintings", 0);
        hotel("h5;m850").go("reading", 0, 0, 1).due(0b10_0000_0000, "hintings", 0);
        hotel("h5;c850").go("reading", 0, 0, 1).due(0, "hintings", 0);
        hotel("h5;b450").go("reading", 0, 0, 1).due(0, "hintings", 0);
        hotel("h5;b350").go("reading", 0, 0, 1).due(0b11_0000_0000, "hintings", 0);
        hotel("h5;m450").go("reading", 0, 0, 1).go("reading", 0, 0, 0).due(0, "hintings", 0);
        // Another sign's reading is not so, whatever this one's hint is.
        hotel("h59;m550").go("reading", 1, 0, 0).due(0, "hintings", 0).due(0b11_1110, "hintings", 1);
        hotel("h59;m550").go("reading", 1, 0, 1).due(ALL_DIGITS, "hintings", 0);
    }

    private static void setsUnknown() {
        for (int k : Run.outOf(0, 3)) {
            Scene.LIVELY.idle(check, UNKNOWN, STAYS, "bearings", k);
            Scene.LIVELY.idle(check, UNKNOWN, STAYS, "kinds", k);
        }
        for (int s : Run.outOf(0, 4)) {
            Scene.LIVELY.idle(check, UNKNOWN, STAYS, "hintings", s);
        }
        for (String call : new String[] {"bearings", "kinds", "hintings"}) {
            Scene.NO_HOTEL.idle(check, UNKNOWN, STAYS, call, 0);
        }
    }

    private static void setsChangeNothing() {
        for (int k = 0; k < 4; k++) {
            Scene.LIVELY.idle(check, new int[] {1016, 254, 1022, 1022}[k], STAYS, "bearings", k);
            Scene.LIVELY.idle(check, new int[] {7, 3, 7, 7}[k], STAYS, "kinds", k);
        }
        int[] due = {ALL_DIGITS, 0b11_1100_0000, 0b1110, ALL_DIGITS, ALL_DIGITS};
        for (int s = 0; s < 5; s++) {
            Scene.LIVELY.idle(check, due[s], STAYS, "hintings", s);
        }
    }

    private static void setsByWhatIsNow() {
        Run run = hotel("h5;m350").go("reading", 0, 0, 1).due(0b11110, "bearings", 0).go("word", 0, 3);
        run.due(0b110, "bearings", 0).due(0, "kinds", 0).due(0b11_1111_0000, "hintings", 0);
        run.go("word", 0, 4).due(0b001, "kinds", 0);
        run.go("seat", 0, 5).go("nights", 3).go("arrive", 0, 9, 9, 0).due(0b1110, "bearings", 0).due(1, "many", 4);
    }

    // ---- promise 22

    /** "The share by which he is not SHOCKED by it": shares of 0 and of 1. */
    private static void oddsOfNoneAndAll() {
        for (int signs = 1; signs <= 5; signs++) {
            String most = "h" + "99999".substring(0, signs), least = "h" + "11111".substring(0, signs);
            hotel(most + ";m890").due(0, "odds", 0, 0).due(1, "odds", 0, 1);
            hotel(most + ";m990").due(1, "odds", 0, 0).due(1, "odds", 0, 1);
            hotel(least + ";m190").due(1, "odds", 0, 0).due(1, "odds", 0, 1);
            hotel(most + ";b490").due(1, "odds", 0, 0).due(1, "odds", 0, 1);
            hotel(most + ";b390").due(0, "odds", 0, 0).due(1, "odds", 0, 1);
            hotel(most + ";c790").due(0, "odds", 0, 0).due(1, "odds", 0, 1);
            hotel(most + ";c890").due(1, "odds", 0, 0).due(1, "odds", 0, 1);
        }
    }

    private static void oddsJustWhatHeBears() {
        int[][] due = {{1, 5}, {2, 5}, {3, 5}, {4, 5}, {1, 1}, {1, 1}};
        for (int bears = 3; bears <= 8; bears++) {
            int[] share = due[bears - 3];
            hotel("h34567;m" + bears + "90").due(share[0], "odds", 0, 0).due(share[1], "odds", 0, 1);
            hotel("h76543;m" + bears + "90").due(share[0], "odds", 0, 0).due(share[1], "odds", 0, 1);
        }
        hotel("h34567;m290").due(0, "odds", 0, 0).due(1, "odds", 0, 1);
        hotel("h3456;m490").due(1, "odds", 0, 0).due(2, "odds", 0, 1);
        hotel("h3456;m590").due(3, "odds", 0, 0).due(4, "odds", 0, 1);
        // What weighs 0 shocks nobody; whether he knows, or is shocked, and what was read is aside.
        hotel("h19;c190").due(1, "odds", 0, 0).due(2, "odds", 0, 1);
        Run run = hotel("h13;m111").go("reading", 0, 0, 1).due(NONE, "give", 1, 0).due(1, "odds", 0, 0);
        run.due(2, "odds", 0, 1).due(1, "give", 0, 0).due(1, "odds", 0, 0).due(2, "odds", 0, 1);
        run.go("word", 0, 2).due(0, "odds", 0, 0);
    }

    /** "(which 0 the upper, 1 the lower number). LOST: UNKNOWN; OUTSIDE." */
    private static void oddsAtTheEdges() {
        for (int k : Run.outOf(0, 3)) {
            Scene.LIVELY.idle(check, LOST, STAYS, "odds", k, 0);
        }
        for (int which : Run.outOf(0, 1)) {
            Scene.LIVELY.idle(check, LOST, STAYS, "odds", 0, which);
            Scene.LIVELY.idle(check, LOST, STAYS, "odds", 3, which);
        }
        int[][] due = {{3, 5}, {4, 5}, {1, 1}, {2, 5}};
        for (int k = 0; k < 4; k++) {
            Scene.LIVELY.idle(check, due[k][0], STAYS, "odds", k, 0);
            Scene.LIVELY.idle(check, due[k][1], STAYS, "odds", k, 1);
        }
        Scene.NO_HOTEL.idle(check, LOST, STAYS, "odds", 0, 0);
        Scene.NO_HOTEL.idle(check, LOST, STAYS, "odds", 0, 1);
    }
}
