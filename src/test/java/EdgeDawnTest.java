import java.util.Arrays;

/** Block 3 and promises 13 to 16, each sentence that names a boundary. */
public final class EdgeDawnTest {
    private static final int UNKNOWN = Run.UNKNOWN, OUTSIDE = Run.OUTSIDE, STATE = Run.STATE, NONE = Run.NONE;
    private static final int STAYS = 2;
    private static final Check check = new Check("EdgeDawnTest");

    public static void main(String[] args) {
        softlyNoSuchSigns();
        softlySignsHeBears();
        softlySignsThatWeighMoreThanNothing();
        softlyWhatHeYetLacks();
        softlyFewest();
        softlyFirstOfSeveral();
        softlyEachAsOftenAsOneLikes();
        softlyAlone();
        softlyAtTheEdges();
        softlyRefused();
        justNoSigns();
        justSoMuch();
        justWays();
        justOfWhom();
        justAtTheEdges();
        justRefused();
        apartAllKnow();
        apartNoTwoOfOneKind();
        apartNoTwoShocked();
        apartOfThoseWhoKnow();
        apartOfThoseWhoAreThere();
        apartFirstOfSeveral();
        apartWhereverTheySit();
        apartAtTheEdges();
        bestNobodyShocked();
        bestNoSignTwice();
        bestMostKnow();
        bestLeastHints();
        bestFirstOfSeveral();
        bestEachAlone();
        bestOfThoseWhoKnow();
        bestOfThoseWhoAreThere();
        bestAtTheEdges();
        check.end();
    }

    private static Run hotel(String text) {
        return new Run(check, text).hotel(text);
    }

    // ---- promise 13

    /** So many signs, these, and none behind them; no signs: there are none. */
    private static Run softly(Run run, int k, int... row) {
        run.due(row.length == 0 ? NONE : row.length, "softly", k, -1);
        for (int i = 0; i <= 8; i++) {
            run.due(i < row.length ? row[i] : NONE, "softly", k, i);
        }
        return run;
    }

    /** "NONE: there are no such SIGNS." */
    private static void softlyNoSuchSigns() {
        softly(hotel("h9;m890"), 0);
        softly(hotel("h99999;m890"), 0);
        softly(hotel("h9;m990"), 0, 0);
        softly(hotel("h98;m890"), 0, 1, 1);
        softly(hotel("h1;c990"), 0);
        softly(hotel("h19;c790"), 0);
        softly(hotel("h19;c890"), 0, 1, 1);
        softly(hotel("h1;b990"), 0);
        softly(hotel("h89;b390"), 0);
        softly(hotel("h89;b490"), 0, 0, 0, 0);
    }

    /** "By SIGNS that WEIGH no more with him than he BEARS": 1 less, just what he bears, 1 more. */
    private static void softlySignsHeBears() {
        softly(hotel("h654;m690"), 0, 0, 0);
        softly(hotel("h654;m590"), 0, 1, 1);
        softly(hotel("h654;m490"), 0, 2, 2, 2);
        softly(hotel("h654;m390"), 0);
        softly(hotel("h765;c690"), 0, 0, 0);
        softly(hotel("h765;c590"), 0, 1, 1);
        softly(hotel("h765;c490"), 0, 2, 2, 2);
        softly(hotel("h864;b490"), 0, 0, 0, 0);
        softly(hotel("h864;b390"), 0, 1, 1, 1);
        softly(hotel("h864;b290"), 0, 2, 2, 2, 2, 2);
    }

    /** "And more than 0". */
    private static void softlySignsThatWeighMoreThanNothing() {
        softly(hotel("h12;c910"), 0, 1);
        softly(hotel("h12;b920"), 0, 1, 1);
        softly(hotel("h11;c910"), 0);
        softly(hotel("h12;m910"), 0, 0);
        softly(hotel("h12;m920"), 0, 1);
    }

    /** "What he yet lacks till he has GATHERED as much as he TAKES, or more". */
    private static void softlyWhatHeYetLacks() {
        softly(hotel("h3;m960"), 0, 0, 0);
        softly(hotel("h3;m950"), 0, 0, 0);
        softly(hotel("h3;m970"), 0, 0, 0, 0);
        softly(hotel("h3;m930"), 0, 0);
        softly(hotel("h3;m940"), 0, 0, 0);
        Run run = hotel("h31;m970");
        softly(run, 0, 0, 0, 0);
        softly(run.go("give", 1, 0), 0, 0, 0);
        softly(run.go("give", 0, 0), 0, 0);
        softly(run.go("give", 1, 0).go("give", 1, 0), 0, 0);
        softly(run.gathered(6).go("nights", 2), 0, 0);
        softly(run.gathered(4).go("nights", 1), 0, 0, 0);
        softly(run.go("nights", 30), 0, 0, 0, 0);
        // What he lacks is less than any sign.
        softly(hotel("h98;m910"), 0, 0);
    }

    private static void softlyFewest() {
        softly(hotel("h15;m950"), 0, 1);
        softly(hotel("h15;m960"), 0, 0, 1);
        softly(hotel("h15;m970"), 0, 1, 1);
        softly(hotel("h1234;m490"), 0, 0, 3, 3);
        softly(hotel("h4321;m490"), 0, 0, 0, 0);
    }

    /** "Of several rows the first". */
    private static void softlyFirstOfSeveral() {
        softly(hotel("h55;m550"), 0, 0);
        softly(hotel("h45;m940"), 0, 0);
        softly(hotel("h45;m950"), 0, 1);
        softly(hotel("h1345;m970"), 0, 1, 2);
        softly(hotel("h5431;m970"), 0, 0, 0);
        softly(hotel("h2435;m980"), 0, 1, 1);
        softly(hotel("h2435;m990"), 0, 1, 3);
        softly(hotel("h3453;m570"), 0, 0, 1);
    }

    private static void softlyEachAsOftenAsOneLikes() {
        softly(hotel("h1;m190"), 0, 0, 0, 0, 0, 0, 0, 0, 0, 0);
        softly(hotel("h1;m180"), 0, 0, 0, 0, 0, 0, 0, 0, 0);
        softly(hotel("h11;m190"), 0, 0, 0, 0, 0, 0, 0, 0, 0, 0);
        softly(hotel("h91;m190"), 0, 1, 1, 1, 1, 1, 1, 1, 1, 1);
    }

    /** "(For a GUEST alone)": whoever sits with him aside; who is shocked may be asked for, too. */
    private static void softlyAlone() {
        Run run = hotel("h1;m110;m120;m130");
        softly(softly(softly(run, 0, 0), 1, 0, 0), 2, 0, 0, 0);
        Run shocked = hotel("h93;m360").due(NONE, "give", 0, 0);
        softly(shocked, 0, 1, 1);
        Run others = hotel("h56;m590;c590;b990");
        softly(softly(softly(others, 0, 0, 0), 1, 0, 1), 2, 1, 1, 1);
    }

    /** "How many SIGNS (i -1), SIGN i of the row (0 .. 8); NONE: there are not so many". */
    private static void softlyAtTheEdges() {
        Scene.LIVELY.idle(check, 3, STAYS, "softly", 0, -1);
        Scene.LIVELY.idle(check, 2, STAYS, "softly", 0, 0);
        Scene.LIVELY.idle(check, NONE, STAYS, "softly", 0, 3);
        Scene.LIVELY.idle(check, NONE, STAYS, "softly", 0, 8);
    }

    /** "UNKNOWN; OUTSIDE; STATE: he KNOWS." */
    private static void softlyRefused() {
        for (int k : Run.outOf(0, 3)) {
            Scene.LIVELY.idle(check, UNKNOWN, STAYS, "softly", k, 0);
        }
        for (int i : Run.outOf(-1, 8)) {
            Scene.LIVELY.idle(check, OUTSIDE, STAYS, "softly", 0, i);
            Scene.LIVELY.idle(check, OUTSIDE, STAYS, "softly", 3, i);
        }
        for (int i = -1; i <= 8; i++) {
            Scene.LIVELY.idle(check, STATE, STAYS, "softly", 3, i);
        }
        hotel("h1;m120").go("give", 0, 0).due(1, "softly", 0, -1).go("give", 0, 0).due(STATE, "softly", 0, -1);
    }

    // ---- promise 14

    /** "0 SIGNS and so much 0". */
    private static void justNoSigns() {
        hotel("h1;m110").due(1, "just", 0, 0, 0).due(0, "just", 0, 0, 1).due(0, "just", 0, 0, 54).due(0, "just", 0, 1, 0);
        // There are no such signs: still one row of none, and no other.
        hotel("h9;m110").due(1, "just", 0, 0, 0).due(0, "just", 0, 1, 9).due(0, "just", 0, 1, 0).due(0, "just", 0, 6, 54);
        hotel("h1;c110").due(1, "just", 0, 0, 0).due(0, "just", 0, 1, 0).due(0, "just", 0, 6, 0);
    }

    /** "WEIGH just so much together": not 1 less, not 1 more. */
    private static void justSoMuch() {
        Run run = hotel("h3;m990");
        for (int n = 0; n <= 6; n++) {
            for (int much = 0; much <= 18; much++) {
                run.due(much == 3 * n ? 1 : 0, "just", 0, n, much);
            }
        }
        hotel("h9;m990").due(1, "just", 0, 6, 54).due(0, "just", 0, 6, 53).due(0, "just", 0, 5, 54).due(1, "just", 0, 5, 45);
        hotel("h98;m990").due(1, "just", 0, 6, 54).due(6, "just", 0, 6, 53).due(15, "just", 0, 6, 52);
    }

    /** "In how many ways rows of n such SIGNS": rows in another order, and of other signs, are other ways. */
    private static void justWays() {
        hotel("h12;m990").due(2, "just", 0, 2, 3).due(1, "just", 0, 2, 2).due(1, "just", 0, 2, 4).due(3, "just", 0, 3, 4);
        hotel("h11;m990").due(2, "just", 0, 1, 1).due(4, "just", 0, 2, 2).due(64, "just", 0, 6, 6).due(0, "just", 0, 6, 7);
        hotel("h11111;m990").due(5, "just", 0, 1, 1).due(15625, "just", 0, 6, 6).due(3125, "just", 0, 5, 5);
        Run run = hotel("h12345;m990").due(1, "just", 0, 6, 6).due(6, "just", 0, 6, 7).due(21, "just", 0, 6, 8);
        run.due(1, "just", 0, 6, 30).due(0, "just", 0, 6, 31).due(0, "just", 0, 6, 5).due(6, "just", 0, 6, 29);
        run.due(1751, "just", 0, 6, 18).due(19, "just", 0, 3, 9).due(18, "just", 0, 3, 8).due(18, "just", 0, 3, 10);
    }

    /** Only signs that he bears and that weigh something; whether he knows, or what he has gathered, is aside. */
    private static void justOfWhom() {
        hotel("h456;m590").due(1, "just", 0, 1, 4).due(1, "just", 0, 1, 5).due(0, "just", 0, 1, 6).due(2, "just", 0, 2, 9);
        hotel("h567;c590").due(1, "just", 0, 1, 4).due(1, "just", 0, 1, 5).due(0, "just", 0, 1, 6);
        hotel("h1239;b390").due(2, "just", 0, 1, 1).due(0, "just", 0, 1, 0).due(0, "just", 0, 1, 4).due(4, "just", 0, 2, 2);
        Run run = hotel("h31;m940").go("give", 0, 0).due(2, "just", 0, 2, 4).go("give", 1, 0).due(1, "many", 3);
        run.due(2, "just", 0, 2, 4).due(1, "just", 0, 0, 0);
        hotel("h93;m360").due(NONE, "give", 0, 0).due(1, "just", 0, 2, 6).due(0, "just", 0, 1, 9);
    }

    /** "n SIGNS (0 .. 6) and so much (0 .. 54)". */
    private static void justAtTheEdges() {
        Scene.LIVELY.idle(check, 1, STAYS, "just", 0, 0, 0);
        Scene.LIVELY.idle(check, 1, STAYS, "just", 0, 6, 6);
        Scene.LIVELY.idle(check, 0, STAYS, "just", 0, 6, 54);
        Scene.LIVELY.idle(check, 0, STAYS, "just", 0, 0, 54);
        Scene.LIVELY.idle(check, 1, STAYS, "just", 3, 0, 0);
        Scene.LIVELY.idle(check, 1, STAYS, "just", 3, 1, 2);
    }

    private static void justRefused() {
        for (int k : Run.outOf(0, 3)) {
            Scene.LIVELY.idle(check, UNKNOWN, STAYS, "just", k, 0, 0);
        }
        for (int n : Run.outOf(0, 6)) {
            Scene.LIVELY.idle(check, OUTSIDE, STAYS, "just", 0, n, 0);
            Scene.LIVELY.idle(check, OUTSIDE, STAYS, "just", 3, n, 54);
        }
        for (int much : Run.outOf(0, 54)) {
            Scene.LIVELY.idle(check, OUTSIDE, STAYS, "just", 0, 0, much);
            Scene.LIVELY.idle(check, OUTSIDE, STAYS, "just", 3, 6, much);
        }
    }

    // ---- promise 15

    /** So many tables, and the table of each. */
    private static Run apart(Run run, int tables, int... row) {
        run.due(tables, "apart", -1);
        for (int k = 0; k <= 5; k++) {
            run.due(k < row.length ? row[k] : NONE, "apart", k);
        }
        return run;
    }

    private static void apartAllKnow() {
        Run run = hotel("h1;m111;m112");
        apart(run, 2, 0, 1);
        apart(run.due(1, "give", 0, 0), 1, NONE, 0);
        apart(run.due(1, "give", 0, 1), 0, NONE, NONE);
        apart(hotel("h9;m910").go("give", 0, 0), 0, NONE);
    }

    /** "No two of one kind sit together". */
    private static void apartNoTwoOfOneKind() {
        apart(hotel("h9;m990"), 1, 0);
        apart(hotel("h9;m990;c990"), 1, 0, 0);
        apart(hotel("h9;m990;b990"), 1, 0, 0);
        apart(hotel("h9;c990;b990"), 1, 0, 0);
        for (char kind : "mcb".toCharArray()) {
            String one = ";" + kind + "990";
            int[] row = new int[6];
            for (int guests = 1; guests <= 6; guests++) {
                row[guests - 1] = guests - 1;
                apart(hotel("h9" + one.repeat(guests)), guests, Arrays.copyOf(row, guests));
            }
        }
        apart(hotel("h9;m990;m990;c990;c990;b990;b990"), 2, 0, 1, 0, 1, 0, 1);
        apart(hotel("h9;m990;m990;m990;c990;c990;b990"), 3, 0, 1, 2, 0, 1, 0);
        apart(hotel("h9;m990;c990;b990;m990;c990;b990"), 2, 0, 0, 0, 1, 1, 1);
    }

    /** "Nor two who are SHOCKED". */
    private static void apartNoTwoShocked() {
        Run run = hotel("h9;m110;c110;b110");
        apart(run, 1, 0, 0, 0);
        apart(run.due(NONE, "give", 0, 1), 1, 0, 0, 0);
        apart(run.due(NONE, "give", 0, 0), 2, 0, 1, 0);
        apart(run.due(NONE, "give", 0, 2), 3, 0, 1, 2);
        // One who is shocked may sit with one who is not.
        Run two = hotel("h9;m110;c990;m990;c110").due(NONE, "give", 0, 0).due(NONE, "give", 0, 3);
        apart(two, 2, 0, 0, 1, 1);
    }

    /** "All who do not KNOW": neither kinds nor shocks of those who know count. */
    private static void apartOfThoseWhoKnow() {
        apart(hotel("h1;m110;m191;m192").go("give", 0, 0), 2, NONE, 0, 1);
        apart(hotel("h1;m190;m111;m192").go("give", 0, 1), 2, 0, NONE, 1);
        apart(hotel("h1;m190;m191;m112").go("give", 0, 2), 2, 0, 1, NONE);
        Run run = hotel("h91;m110;c191").due(NONE, "give", 0, 0).due(NONE, "give", 0, 1);
        apart(run, 2, 0, 1);
        apart(run.due(1, "give", 1, 0), 1, NONE, 0);
    }

    private static void apartOfThoseWhoAreThere() {
        Run run = hotel("h9;m990;m990;m990");
        apart(run.due(2, "leave", 2), 2, 0, 1);
        apart(run.due(2, "arrive", 1, 9, 9, 0), 2, 0, 1, 0);
        apart(run.due(2, "leave", 0), 1, 0, 0);
    }

    /** "The fewest TABLES; of several rows the first": where the least free table for each in turn won't do. */
    private static void apartFirstOfSeveral() {
        Run run = hotel("h9;c990;b990;c110;b110").due(NONE, "give", 0, 2).due(NONE, "give", 0, 3);
        apart(run, 2, 0, 1, 1, 0);
        Run none = hotel("h9;c990;b990;c110;b110").due(NONE, "give", 0, 2);
        apart(none, 2, 0, 0, 1, 1);
        Run later = hotel("h9;m990;c990;b110;m110;c110").due(NONE, "give", 0, 2).due(NONE, "give", 0, 3);
        apart(later.due(NONE, "give", 0, 4), 3, 0, 0, 0, 1, 2);
        Run six = hotel("h9;m990;c990;m110;c110;b990;b990").due(NONE, "give", 0, 2).due(NONE, "give", 0, 3);
        apart(six, 2, 0, 1, 1, 0, 0, 1);
    }

    private static void apartWhereverTheySit() {
        apart(hotel("h9;m995;m993;c995"), 2, 0, 1, 0);
        apart(hotel("h9;m990;m990;c990"), 2, 0, 1, 0);
        apart(hotel("h9;m995;m993;c995").go("seat", 2, 3), 2, 0, 1, 0);
    }

    /** "How many TABLES (k -1), the TABLE of GUEST k (0 .. 5; NONE: he KNOWS, there is no such GUEST). OUTSIDE; STATE." */
    private static void apartAtTheEdges() {
        for (int k : Run.outOf(-1, 5)) {
            Scene.LIVELY.idle(check, OUTSIDE, STAYS, "apart", k);
            Scene.NO_HOTEL.idle(check, OUTSIDE, STAYS, "apart", k);
        }
        int[] due = {1, 0, 0, 0, NONE, NONE, NONE};
        for (int k = -1; k <= 5; k++) {
            Scene.LIVELY.idle(check, due[k + 1], STAYS, "apart", k);
            Scene.NO_HOTEL.idle(check, STATE, STAYS, "apart", k);
        }
        apart(Scene.CROWDED.made(check, "six"), 2, NONE, 0, 0, 0, 1, 1);
    }

    // ---- promise 16

    /** So many come to know, by so many hints, by these signs. */
    private static Run best(Run run, int know, int hints, int... row) {
        run.due(know, "best", -2).due(hints, "best", -1);
        for (int k = 0; k <= 5; k++) {
            run.due(k < row.length ? row[k] : NONE, "best", k);
        }
        return run;
    }

    /** "So that nobody is SHOCKED by it": just what he bears, 1 more; who is shocked already may be given one. */
    private static void bestNobodyShocked() {
        best(hotel("h5;m550"), 1, 5, 0);
        best(hotel("h5;m450"), 0, 0, NONE);
        best(hotel("h5;c440"), 1, 5, 0);
        best(hotel("h5;c340"), 0, 0, NONE);
        best(hotel("h5;b220"), 1, 5, 0);
        best(hotel("h5;b120"), 0, 0, NONE);
        best(hotel("h95;m550").due(NONE, "give", 0, 0), 1, 5, 1);
        best(hotel("h59;m810;m910"), 2, 14, 0, 1);
        best(hotel("h95;m910;m810"), 2, 14, 0, 1);
    }

    /** "A SIGN each, or none (no SIGN twice)". */
    private static void bestNoSignTwice() {
        best(hotel("h1;m110;m110"), 1, 1, 0, NONE);
        best(hotel("h11;m110;m110"), 2, 2, 0, 1);
        best(hotel("h11;m110;m110;m110"), 2, 2, 0, 1, NONE);
        best(hotel("h11111;m110;m110;m110;m110;m110;m110"), 5, 5, 0, 1, 2, 3, 4, NONE);
        best(hotel("h11111;m990;m110;m110;m110;m110;m110"), 5, 5, NONE, 0, 1, 2, 3, 4);
        // Two signs for one, who lacks both together: no.
        best(hotel("h34;m970"), 0, 0, NONE);
        best(hotel("h37;m970"), 1, 7, 1);
    }

    /** "Those by which the most come to KNOW by it": just what he lacks, 1 less. */
    private static void bestMostKnow() {
        best(hotel("h5;m940"), 1, 5, 0);
        best(hotel("h5;m950"), 1, 5, 0);
        best(hotel("h5;m960"), 0, 0, NONE);
        best(hotel("h51;m960").go("give", 1, 0), 1, 5, 0);
        best(hotel("h51;m970").go("give", 1, 0), 0, 0, NONE);
        // More hints, if more come to know by it; the lesser sign is left to him whom it suffices.
        best(hotel("h91;m910;m990"), 2, 10, 1, 0);
        best(hotel("h19;m990;m910"), 2, 10, 1, 0);
        best(hotel("h95;m590;m950"), 1, 5, NONE, 1);
    }

    /** "Of several those with the least HINTS together": hints, not what they weigh. */
    private static void bestLeastHints() {
        best(hotel("h98;m910"), 1, 8, 1);
        best(hotel("h9821;m910;m910"), 2, 3, 2, 3);
        best(hotel("h54;m930;m940"), 2, 9, 0, 1);
        best(hotel("h5;m940;c940"), 1, 5, 0, NONE);
        best(hotel("h67;b930;m960"), 2, 13, 0, 1);
        best(hotel("h45;b920;c990"), 1, 4, 0, NONE);
        best(hotel("h54;b920;c990"), 1, 4, 1, NONE);
    }

    /** "Of several the first as a row (none is told as 9)": a sign goes ahead of none. */
    private static void bestFirstOfSeveral() {
        best(hotel("h77;m910"), 1, 7, 0);
        best(hotel("h777;m910;m910"), 2, 14, 0, 1);
        best(hotel("h7;m910;m910;m910"), 1, 7, 0, NONE, NONE);
        best(hotel("h7;m990;m910;m910"), 1, 7, NONE, 0, NONE);
        best(hotel("h776;m970;m960;m970"), 3, 20, 0, 2, 1);
        best(hotel("h667;m960;m970;m960"), 3, 19, 0, 2, 1);
    }

    /** "(each alone, whoever sits with him aside)". */
    private static void bestEachAlone() {
        best(hotel("h1;m110;m110;m110"), 1, 1, 0, NONE, NONE);
        best(hotel("h13;m110;m330"), 2, 4, 0, 1);
        best(hotel("h12;m110;m230"), 1, 1, 0, NONE);
    }

    private static void bestOfThoseWhoKnow() {
        Run run = hotel("h1;m111;m112;m193");
        best(run, 1, 1, 0, NONE, NONE);
        best(run.due(1, "give", 0, 0), 1, 1, NONE, 0, NONE);
        best(run.due(1, "give", 0, 1), 0, 0, NONE, NONE, NONE);
        best(hotel("h9;m910").go("give", 0, 0), 0, 0, NONE);
    }

    private static void bestOfThoseWhoAreThere() {
        Run run = hotel("h1;m990;m110");
        best(run, 1, 1, NONE, 0);
        best(run.due(1, "leave", 1), 0, 0, NONE);
        best(run.due(1, "arrive", 0, 1, 1, 1), 1, 1, NONE, 0);
        best(run.due(1, "leave", 0), 1, 1, 0);
        best(run.hotel("h1;m990"), 0, 0, NONE);
    }

    /** "(k -2), (k -1), the SIGN of GUEST k (0 .. 5; NONE: none, there is no such GUEST). OUTSIDE; STATE." */
    private static void bestAtTheEdges() {
        for (int k : Run.outOf(-2, 5)) {
            Scene.LIVELY.idle(check, OUTSIDE, STAYS, "best", k);
            Scene.NO_HOTEL.idle(check, OUTSIDE, STAYS, "best", k);
        }
        for (int k = -2; k <= 5; k++) {
            Scene.LIVELY.idle(check, k < 0 ? 0 : NONE, STAYS, "best", k);
            Scene.NO_HOTEL.idle(check, STATE, STAYS, "best", k);
        }
        best(Scene.CROWDED.made(check, "six"), 1, 2, NONE, NONE, NONE, 0, NONE, NONE);
        best(Scene.ALONE.made(check, "one"), 1, 5, 0);
    }
}
