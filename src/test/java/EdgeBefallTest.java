/** Block 2 and promises 8 to 11, each sentence that names a boundary. */
public final class EdgeBefallTest {
    private static final int UNKNOWN = Run.UNKNOWN, OUTSIDE = Run.OUTSIDE, STATE = Run.STATE, FULL = Run.FULL;
    private static final int NONE = Run.NONE;
    private static final int STAYS = 2;
    private static final Check check = new Check("EdgeBefallTest");

    public static void main(String[] args) {
        giveWhatHeBears();
        giveOfEachWeight();
        shockedForGood();
        shockedHasGatheredAsAhead();
        shockStirsNobody();
        giveWhatHeTakes();
        giveWeighsNothing();
        giveRefused();
        tableGathersOneMore();
        tableJustAsMuchAsHeTakes();
        tableOfThoseWhoKnow();
        tableOfTheShocked();
        tableAndSoOn();
        tableLeastNext();
        tableLeastNextOfLater();
        nightsDownToNothing();
        nightsOfThoseWhoKnow();
        nightsOfThoseWhoAreThere();
        nightsAtTheEdges();
        nightsRefused();
        arriveIsTheLast();
        arriveAtTheEdges();
        arriveOutside();
        arriveSixthAndSeventh();
        leaveOfEach();
        leaveTakesBackReadings();
        leaveTheOnlyOne();
        leaveUnknown();
        check.end();
    }

    private static Run hotel(String title, String text) {
        return new Run(check, title).hotel(text);
    }

    // ---- promise 8

    /** "If it WEIGHS more than he BEARS, he is SHOCKED": 1 less, just what he bears, 1 more, with each kind. */
    private static void giveWhatHeBears() {
        String[] texts = {"h456;m590", "h567;c590", "h468;b390", "h579;b390", "h12;m190", "h123;c190", "h89;m890"};
        int[] bears = {5, 5, 3, 3, 1, 1, 8};
        int[][] weights = {{4, 5, 6}, {4, 5, 6}, {2, 3, 4}, {2, 3, 4}, {1, 2}, {0, 1, 2}, {8, 9}};
        for (int t = 0; t < texts.length; t++) {
            for (int s = 0; s < weights[t].length; s++) {
                boolean more = weights[t][s] > bears[t];
                Run run = hotel(texts[t], texts[t]).due(weights[t][s], "weighs", s, 0).due(more ? NONE : 0, "give", s, 0);
                run.shocked(more ? 1 : 0).gathered(more ? 0 : weights[t][s]).knows(0);
            }
        }
    }

    private static void giveOfEachWeight() {
        for (int kind = 0; kind <= 2; kind++) {
            for (int hint = 1; hint <= 9; hint++) {
                int weight = kind == 0 ? hint : kind == 1 ? hint - 1 : hint / 2;
                for (int bears = 1; bears <= 9; bears++) {
                    for (int takes = 1; takes <= 9; takes++) {
                        giveOnce(kind, hint, bears, takes, weight);
                    }
                }
            }
        }
    }

    private static void giveOnce(int kind, int hint, int bears, int takes, int weight) {
        String text = "h" + hint + ";" + "mcb".charAt(kind) + bears + takes + "0";
        boolean shocked = weight > bears;
        boolean knows = !shocked && weight >= takes;
        Run run = hotel(text, text).due(shocked ? NONE : knows ? 1 : 0, "give", 0, 0);
        run.gathered(shocked ? 0 : weight).knows(knows ? 1 : 0).shocked(shocked ? 1 : 0).due(knows ? 1 : 0, "many", 3);
    }

    /** "SHOCKED (for good)". */
    private static void shockedForGood() {
        Run run = hotel("for good", "h921;m231;m231").due(NONE, "give", 0, 0).shocked(1, 0).due(0, "give", 2, 0);
        run.shocked(1, 0).go("nights", 30).shocked(1, 0).due(NONE, "give", 0, 0).shocked(1, 0);
        run.go("seat", 0, 5).shocked(1, 0);
        run.go("word", 0, 1).due(0, "give", 0, 0).shocked(1, 0).due(1, "give", 1, 0).knows(1, 0).shocked(1, 0);
        run.go("leave", 1).shocked(1).go("arrive", 0, 1, 1, 1).shocked(1, 0);
    }

    /** "And has GATHERED as much as ahead of it". */
    private static void shockedHasGatheredAsAhead() {
        Run run = hotel("as ahead", "h352;m390").due(0, "give", 0, 0).gathered(3).due(NONE, "give", 1, 0).gathered(3);
        run.due(0, "give", 2, 0).gathered(5).due(NONE, "give", 1, 0).gathered(5).knows(0).shocked(1);
        // What would have sufficed does not, if it shocks him.
        hotel("enough, but a shock", "h9;m890").due(NONE, "give", 0, 0).gathered(0).knows(0).due(0, "many", 3);
        hotel("enough, no shock", "h9;m990").due(1, "give", 0, 0).gathered(9).knows(1).due(1, "many", 3);
    }

    private static void shockStirsNobody() {
        Run run = hotel("a shock", "h9;m890;m910;m110").due(NONE, "give", 0, 0).gathered(0, 0, 0).knows(0, 0, 0);
        run.shocked(1, 0, 0);
    }

    /** "When he has GATHERED so as much as he TAKES, or more, he comes to KNOW." */
    private static void giveWhatHeTakes() {
        Run less = hotel("1 less", "h321;m950").due(0, "give", 0, 0).due(0, "give", 2, 0).gathered(4).knows(0);
        less.due(0, "many", 3).due(1, "give", 2, 0).gathered(5).knows(1).due(1, "many", 3);
        hotel("just as much", "h321;m950").due(0, "give", 0, 0).due(1, "give", 1, 0).gathered(5).knows(1);
        hotel("1 more", "h32;m950").due(0, "give", 0, 0).due(1, "give", 0, 0).gathered(6).knows(1);
        hotel("takes 1", "h1;m110").due(1, "give", 0, 0).gathered(1).knows(1);
        Run nine = hotel("takes 9", "h1;m190");
        for (int given = 1; given < 9; given++) {
            nine.due(0, "give", 0, 0).gathered(given).knows(0);
        }
        nine.due(1, "give", 0, 0).gathered(9).knows(1);
    }

    private static void giveWeighsNothing() {
        Run run = hotel("weighs 0", "h1;c110;b110").due(0, "give", 0, 0).due(0, "give", 0, 1);
        run.gathered(0, 0).knows(0, 0).shocked(0, 0);
    }

    /** "UNKNOWN: SIGN, GUEST; STATE: he KNOWS." */
    private static void giveRefused() {
        for (int s : Run.outOf(0, 4)) {
            Scene.LIVELY.idle(check, UNKNOWN, STAYS, "give", s, 0);
        }
        for (int k : Run.outOf(0, 3)) {
            Scene.LIVELY.idle(check, UNKNOWN, STAYS, "give", 0, k);
        }
        for (int s = 0; s < 5; s++) {
            Scene.LIVELY.idle(check, STATE, STAYS, "give", s, 3);
        }
        Scene.LIVELY.made(check, "the last sign, the last who does not know").due(0, "give", 4, 2).gathered(1, 2, 1, 5);
        Scene.LIVELY.made(check, "one who is shocked").due(0, "give", 2, 1).gathered(1, 4, 0, 5).shocked(0, 1, 0, 1);
    }

    // ---- promise 8: by their table

    /** "Makes all who do not KNOW and sit at his TABLE have GATHERED 1 more". */
    private static void tableGathersOneMore() {
        for (int table = 0; table <= 5; table++) {
            Run run = hotel("at table " + table, "h1;m110;m190;c191;b192;m193;c194").go("seat", 0, table);
            int[] due = {1, 0, 0, 0, 0, 0};
            if (table < 5) {
                due[table + 1] = 1;
            }
            run.due(1, "give", 0, 0).gathered(due).knows(1, 0, 0, 0, 0, 0).shocked(0, 0, 0, 0, 0, 0);
        }
    }

    /** "Who of these has GATHERED so as much as he TAKES comes to KNOW, too": just so much, 1 less, elsewhere. */
    private static void tableJustAsMuchAsHeTakes() {
        Run run = hotel("just so much", "h1;m110;m120;m140;m121").due(0, "give", 0, 1).due(0, "give", 0, 2);
        run.due(0, "give", 0, 3).due(2, "give", 0, 0).gathered(1, 2, 3, 1).knows(1, 1, 0, 0);
    }

    private static void tableOfThoseWhoKnow() {
        Run run = hotel("those who know", "h12;m110;m230;m230").due(1, "give", 0, 0).gathered(1, 1, 1);
        run.due(1, "give", 1, 2).gathered(1, 2, 3).knows(1, 0, 1);
    }

    private static void tableOfTheShocked() {
        Run run = hotel("the shocked", "h91;m110;m110;m990").due(NONE, "give", 0, 1).shocked(0, 1, 0);
        run.due(2, "give", 1, 0).gathered(1, 1, 2).knows(1, 1, 0).shocked(0, 1, 0);
    }

    private static void tableAndSoOn() {
        Run chain = hotel("a chain", "h1;m110;m110;m120;m130;m140;m150").due(6, "give", 0, 0).knows(1, 1, 1, 1, 1, 1);
        chain.gathered(1, 1, 2, 3, 4, 5).due(6, "many", 3);
        Run broken = hotel("a chain that breaks", "h1;m110;m110;m130;m130;m140;m150").due(2, "give", 0, 0);
        broken.gathered(1, 1, 2, 2, 2, 2).knows(1, 1, 0, 0, 0, 0).due(2, "many", 3);
        Run tables = hotel("a chain at one table", "h1;m110;m110;m121;m120;m121;m130").due(4, "give", 0, 1);
        tables.knows(1, 1, 0, 1, 0, 1).gathered(1, 1, 0, 2, 0, 3);
        Run alone = hotel("alone at a table", "h1;m110;m111;m112").due(1, "give", 0, 1).gathered(0, 1, 0).knows(0, 1, 0);
        alone.due(1, "many", 3);
    }

    /** "Of several who have always the least next": who waits does not know yet, and has gathered 1 more. */
    private static void tableLeastNext() {
        hotel("three at once", "h1;m110;m110;m110;m110").due(4, "give", 0, 3).gathered(1, 2, 3, 1);
        hotel("three at once", "h1;m110;m110;m110;m110").due(4, "give", 0, 0).gathered(1, 1, 2, 3);
        hotel("three at once", "h1;m110;m110;m110;m110").due(4, "give", 0, 1).gathered(1, 1, 2, 3);
        hotel("six at once", "h1;m110;c110;b110;m110;c110;b110").due(6, "give", 0, 3).gathered(1, 2, 3, 1, 4, 5);
    }

    private static void tableLeastNextOfLater() {
        // By 3 both 1 and 2 have enough; 1 is next, and by it 0 has enough, too, who goes ahead of 2.
        hotel("a lesser one later", "h1;m120;m110;m110;m110").due(4, "give", 0, 3).gathered(2, 1, 3, 1);
        // 0 lacks 3 at first: 1 and 2 come ahead of it, and it comes ahead of 4.
        hotel("a lesser one last", "h1;m130;m110;m110;m110;m110").due(5, "give", 0, 3).gathered(3, 1, 2, 1, 4);
    }

    // ---- promise 9

    /** "All who do not KNOW have GATHERED 1 less (0 at least)", and "what .. have GATHERED together then". */
    private static void nightsDownToNothing() {
        for (int n = 1; n <= 6; n++) {
            Run run = hotel(n + " nights", "h543;m990;m991;m992;m993").go("give", 0, 0).go("give", 1, 1).go("give", 2, 2);
            int[] left = {Math.max(0, 5 - n), Math.max(0, 4 - n), Math.max(0, 3 - n), 0};
            run.due(left[0] + left[1] + left[2], "nights", n).gathered(left).due(n, "many", 2);
            // Nothing below 0 is left over.
            run.due(0, "give", 1, 3).gathered(left[0], left[1], left[2], 4);
        }
        Run one = hotel("one by one", "h3;m990").go("give", 0, 0).due(2, "nights", 1).due(1, "nights", 1);
        one.due(0, "nights", 1).due(0, "nights", 1).gathered(0).due(4, "many", 2).due(0, "give", 0, 0).gathered(3);
    }

    private static void nightsOfThoseWhoKnow() {
        Run run = hotel("those who know", "h59;m531;m592;m493").due(1, "give", 0, 0).due(0, "give", 0, 1);
        run.due(NONE, "give", 1, 2);
        run.due(3, "nights", 2).gathered(5, 3, 0).knows(1, 0, 0).shocked(0, 0, 1).due(1, "many", 3);
        Run all = hotel("all know", "h9;m910").due(1, "give", 0, 0).due(0, "nights", 30).gathered(9).knows(1);
        all.due(30, "many", 2);
    }

    /** Of six, of whom the last has gathered something, and of five, when he has gone. */
    private static void nightsOfThoseWhoAreThere() {
        String six = "h9;m990;m991;m992;m993;m994;c995";
        Run run = hotel("six", six).go("give", 0, 5).gathered(0, 0, 0, 0, 0, 8).due(7, "nights", 1);
        run.gathered(0, 0, 0, 0, 0, 7).due(5, "leave", 5).due(0, "nights", 1);
        run.due(5, "arrive", 1, 9, 9, 5).due(0, "nights", 1).gathered(0, 0, 0, 0, 0, 0);
        hotel("the first goes", six).go("give", 0, 5).due(5, "leave", 0).due(6, "nights", 2).gathered(0, 0, 0, 0, 6);
    }

    private static void nightsAtTheEdges() {
        Run run = hotel("edges", "h9;m990;m991").go("give", 0, 0).due(0, "nights", 1).due(1, "many", 2);
        run.due(0, "nights", 29).due(30, "many", 2).due(0, "nights", 30).due(60, "many", 2).gathered(9, 0).knows(1, 0);
        Run many = hotel("many nights", "h1;m990");
        for (int i = 1; i <= 200; i++) {
            many.due(0, "nights", 30).due(30 * i, "many", 2);
        }
    }

    /** "OUTSIDE; STATE: there is no HOTEL." */
    private static void nightsRefused() {
        for (int n : Run.outOf(1, 30)) {
            Scene.LIVELY.idle(check, OUTSIDE, STAYS, "nights", n);
            Scene.NO_HOTEL.idle(check, OUTSIDE, STAYS, "nights", n);
        }
        Scene.NO_HOTEL.idle(check, STATE, STAYS, "nights", 1);
        Scene.NO_HOTEL.idle(check, STATE, STAYS, "nights", 30);
        Scene.LIVELY.made(check, "1").due(1, "nights", 1).due(3, "many", 2).fault(STAYS);
        Scene.LIVELY.made(check, "30").due(0, "nights", 30).due(32, "many", 2).fault(STAYS);
    }

    // ---- promise 10

    /** "A GUEST comes (the last one)". */
    private static void arriveIsTheLast() {
        Run run = Scene.LIVELY.made(check, "arrive").due(4, "arrive", 2, 7, 8, 4).guest(4, 2, 7, 8, 4, 0, 0, 0);
        run.guest(0, 0, 3, 9, 1, 1, 0, 0).guest(1, 1, 4, 7, 2, 2, 0, 1).guest(3, 0, 2, 5, 4, 5, 1, 1);
        run.due(5, "many", 0).due(2, "many", 2).due(1, "many", 3).due(2, "many", 4).fault(STAYS);
        run.due(5, "arrive", 0, 1, 1, 0).guest(5, 0, 1, 1, 0, 0, 0, 0).due(6, "many", 0);
        Run one = Scene.ALONE.made(check, "the second").due(1, "arrive", 1, 2, 3, 4).guest(1, 1, 2, 3, 4, 0, 0, 0);
        one.due(2, "many", 0).due(1, "many", 4);
    }

    private static void arriveAtTheEdges() {
        int[][] inside = {{0, 1, 1, 0}, {2, 1, 1, 0}, {0, 9, 1, 0}, {0, 1, 9, 0}, {0, 1, 1, 5}, {2, 9, 9, 5}, {1, 2, 2, 1},
            {1, 8, 8, 4}};
        for (int[] in : inside) {
            Run run = Scene.ALONE.made(check, "arrive").due(1, "arrive", in).guest(1, in[0], in[1], in[2], in[3], 0, 0, 0);
            run.due(2, "many", 0);
        }
    }

    /** "OUTSIDE: kind (0 .. 2), bears, takes (1 .. 9), table (0 .. 5)". */
    private static void arriveOutside() {
        int[] least = {0, 1, 1, 0}, most = {2, 9, 9, 5};
        for (Scene scene : Scene.values()) {
            for (int place = 0; place < 4; place++) {
                for (int v : Run.outOf(least[place], most[place])) {
                    int[] args = least.clone();
                    args[place] = v;
                    scene.idle(check, OUTSIDE, STAYS, "arrive", args);
                }
            }
        }
        Scene.NO_HOTEL.idle(check, STATE, STAYS, "arrive", least);
        Scene.NO_HOTEL.idle(check, STATE, STAYS, "arrive", most);
    }

    /** "FULL: there are six." */
    private static void arriveSixthAndSeventh() {
        for (int guests = 1; guests <= 6; guests++) {
            Run run = hotel(guests + " guests", "h1;m110;m110;m110;m110;m110;m110".substring(0, 2 + 5 * guests));
            for (int k = guests; k < 6; k++) {
                run.due(k, "arrive", 1, 1, 1, 1);
            }
            run.due(6, "many", 0).due(FULL, "arrive", 1, 1, 1, 1).due(6, "many", 0).due(UNKNOWN, "ofGuest", 6, 0);
            run.due(5, "leave", 0).due(5, "arrive", 1, 1, 1, 1).due(FULL, "arrive", 1, 1, 1, 1);
        }
        Scene.CROWDED.idle(check, FULL, STAYS, "arrive", 0, 1, 1, 0);
        Scene.CROWDED.idle(check, FULL, STAYS, "arrive", 2, 9, 9, 5);
    }

    // ---- promise 11

    /** "One goes: those behind have 1 less". */
    private static void leaveOfEach() {
        int[][] all = {{0, 3, 9, 1, 1, 0, 0}, {1, 4, 7, 2, 2, 0, 1}, {2, 5, 8, 3, 0, 0, 0}, {0, 2, 5, 4, 5, 1, 1}};
        for (int k = 0; k < 4; k++) {
            Run run = Scene.LIVELY.made(check, "leave " + k).due(3, "leave", k);
            for (int j = 0; j < 3; j++) {
                run.guest(j, all[j < k ? j : j + 1]);
            }
            run.due(UNKNOWN, "ofGuest", 3, 0).due(3, "many", 0).due(5, "many", 1).due(2, "many", 2);
            run.due(k == 3 ? 0 : 1, "many", 3).fault(STAYS);
            // Nothing of one who has gone is left to one who comes.
            run.due(3, "arrive", 1, 6, 6, 0).guest(3, 1, 6, 6, 0, 0, 0, 0);
        }
        for (int k = 0; k < 6; k++) {
            Run run = Scene.CROWDED.made(check, "leave " + k).due(5, "leave", k).due(UNKNOWN, "ofGuest", 5, 0);
            for (int j = 0; j < 5; j++) {
                int was = j < k ? j : j + 1;
                run.due(was == 5 ? 6 : was + 1, "ofGuest", j, 2);
            }
        }
    }

    /** "All READINGS are taken back": those of others, too. */
    private static void leaveTakesBackReadings() {
        for (int k = 0; k < 4; k++) {
            Run run = Scene.LIVELY.made(check, "readings").due(2, "many", 4).due(3, "leave", k).due(0, "many", 4);
            run.due(OUTSIDE, "back", 1).due(0, "back", 0);
            for (int j = 0; j < 3; j++) {
                run.due(0b11_1111_1110, "bearings", j).due(7, "kinds", j);
            }
            run.due(0, "reading", 0, 0, 0);
        }
        Scene.CROWDED.made(check, "eight readings").due(8, "many", 4).due(5, "leave", 5).due(0, "many", 4);
    }

    /** "STATE: he is the only one." */
    private static void leaveTheOnlyOne() {
        Scene.ALONE.idle(check, STATE, STAYS, "leave", 0);
        Run two = hotel("two", "h1;m110;c220").due(1, "leave", 0).guest(0, 1, 2, 2, 0).due(STATE, "leave", 0);
        two.guest(0, 1, 2, 2, 0).due(1, "many", 0).due(1, "arrive", 0, 1, 1, 1).due(1, "leave", 1).due(STATE, "leave", 0);
        Run six = Scene.CROWDED.made(check, "one by one");
        for (int left = 5; left >= 1; left--) {
            six.due(left, "leave", left);
        }
        six.due(STATE, "leave", 0).due(UNKNOWN, "leave", 1);
    }

    private static void leaveUnknown() {
        for (int k : Run.outOf(0, 3)) {
            Scene.LIVELY.idle(check, UNKNOWN, STAYS, "leave", k);
        }
        for (int k : Run.outOf(0, 0)) {
            Scene.ALONE.idle(check, UNKNOWN, STAYS, "leave", k);
        }
        for (int k : Run.outOf(0, 5)) {
            Scene.CROWDED.idle(check, UNKNOWN, STAYS, "leave", k);
        }
        Scene.NO_HOTEL.idle(check, UNKNOWN, STAYS, "leave", 0);
    }
}
