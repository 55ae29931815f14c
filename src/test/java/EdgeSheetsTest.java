import java.util.Arrays;

/** Block 5 and promises 23 to 33, each sentence that names a boundary. */
public final class EdgeSheetsTest {
    private static final int UNKNOWN = Run.UNKNOWN, OUTSIDE = Run.OUTSIDE;
    private static final long LOST = Run.LOST;
    private static final int NULL = Run.NULL, CAST = Run.CAST, INDEX = Run.INDEX, SIZE = Run.SIZE;
    private static final int BYTES = Run.BYTES, SHORTS = Run.SHORTS, INTS = Run.INTS;
    private static final int STAYS = 2;
    private static final Check check = new Check("EdgeSheetsTest");

    public static void main(String[] args) {
        sheetOfNoneAndOfSixty();
        sheetIsNew();
        sheetOutside();
        sheetSize();
        loseOnce();
        loseUnknown();
        putIsCutToItsLane();
        putFirstAndLast();
        putFaults();
        cellOfEachLane();
        cellFaults();
        copyJustAll();
        copyWithinOneSheet();
        copyToAnother();
        copyFaults();
        tellOfEachKind();
        bowToEachKind();
        traceWraps();
        traceAlone();
        asEachKind();
        asRefused();
        faultAheadOfAny();
        faultBehindACallThatCameToNone();
        faultBehindARefusedCall();
        faultBehindCallsThatNameNone();
        manyOfEach();
        check.end();
    }

    private static Run run(String title) {
        return new Run(check, title);
    }

    // ---- promise 23

    /** "A row of 0 .. 60 numbers (0 at first) of a LANE". */
    private static void sheetOfNoneAndOfSixty() {
        for (int k = 0; k < 4; k++) {
            for (int lane = BYTES; lane <= INTS; lane++) {
                Run none = run("0 cells").due(1, "sheet", k, lane, 0).fault(0).due(LOST, "cell", k, 0, lane).fault(3);
                none.due(INDEX, "put", k, 0, 1).due(0, "copy", k, 0, k, 0, 0).due(1, "lose", k);
                Run one = run("1 cell").due(1, "sheet", k, lane, 1).due(0, "cell", k, 0, lane).due(LOST, "cell", k, 1, lane);
                one.fault(3);
                Run sixty = run("60 cells").due(1, "sheet", k, lane, 60);
                for (int i = 0; i < 60; i++) {
                    sixty.due(0, "cell", k, i, lane).due(1, "put", k, i, i + 1);
                }
                sixty.due(LOST, "cell", k, 60, lane).fault(3).due(INDEX, "put", k, 60, 1);
                for (int i = 0; i < 60; i++) {
                    sixty.due(i + 1, "cell", k, i, lane);
                }
                run("59 cells").due(1, "sheet", k, lane, 59).due(0, "cell", k, 58, lane).due(LOST, "cell", k, 59, lane);
            }
        }
    }

    /** "A SHEET gets a new row": its cells are 0, its lane and how many there are are new. */
    private static void sheetIsNew() {
        Run run = run("new row").row(1, BYTES, 5, 6, 7).row(2, BYTES, 8, 9).due(1, "sheet", 1, BYTES, 3);
        run.due(0, "cell", 1, 0, BYTES).due(0, "cell", 1, 1, BYTES).due(0, "cell", 1, 2, BYTES).due(8, "cell", 2, 0, BYTES);
        run.row(1, BYTES, 5, 6, 7).due(1, "sheet", 1, INTS, 2).due(0, "cell", 1, 0, INTS).due(LOST, "cell", 1, 2, INTS);
        run.fault(3).due(LOST, "cell", 1, 0, BYTES).fault(2).due(1, "put", 1, 1, 1 << 20).due(1, "sheet", 1, SHORTS, 4);
        run.due(0, "cell", 1, 1, SHORTS).due(0, "cell", 1, 3, SHORTS).due(LOST, "cell", 1, 4, SHORTS);
        // What a longer row had does not come back.
        run.row(3, INTS, 1, 2, 3, 4).due(1, "sheet", 3, INTS, 1).due(1, "sheet", 3, INTS, 4).due(0, "cell", 3, 3, INTS);
        run.row(3, INTS, 1, 2, 3, 4).due(1, "lose", 3).due(1, "sheet", 3, INTS, 4).due(0, "cell", 3, 3, INTS);
    }

    /** "UNKNOWN; OUTSIDE: lane, n above 60". */
    private static void sheetOutside() {
        for (int k : Run.outOf(0, 3)) {
            Scene.LIVELY.idle(check, UNKNOWN, 0, "sheet", k, BYTES, 1);
        }
        for (int lane : Run.outOf(0, 2)) {
            Scene.LIVELY.idle(check, OUTSIDE, 0, "sheet", 0, lane, 1);
            Scene.LIVELY.idle(check, OUTSIDE, 0, "sheet", 3, lane, 60);
        }
        for (int n : new int[] {61, 62, 1000, Run.MAX}) {
            Scene.LIVELY.idle(check, OUTSIDE, 0, "sheet", 0, BYTES, n);
            Scene.LIVELY.idle(check, OUTSIDE, 0, "sheet", 3, INTS, n);
        }
    }

    /** "4 SIZE (a length below 0)". */
    private static void sheetSize() {
        for (int n : new int[] {-1, -2, -61, Run.MIN}) {
            for (int k = 0; k < 4; k++) {
                Scene.LIVELY.idle(check, SIZE, 4, "sheet", k, k % 3, n);
            }
        }
    }

    // ---- promise 24

    /** "A SHEET has nothing: 1; 0: it had nothing." */
    private static void loseOnce() {
        for (int k = 0; k < 4; k++) {
            Run run = run("lose " + k);
            for (int other = 0; other < 4; other++) {
                run.due(1, "sheet", other, INTS, other);
            }
            run.due(1, "lose", k).due(NULL, "put", k, 0, 0).due(LOST, "cell", k, 0, INTS).fault(1).due(0, "lose", k);
            for (int other = 0; other < 4; other++) {
                run.due(other == k ? 0 : 1, "lose", other).due(0, "lose", other);
            }
        }
        run("a row of 0 cells is something").due(1, "sheet", 0, BYTES, 0).due(1, "lose", 0).due(0, "lose", 0);
        Scene.LIVELY.idle(check, 0, STAYS, "lose", 3);
        // The hotel does not go with its text.
        Scene.LIVELY.made(check, "its text").due(1, "lose", 0).fault(STAYS).due(4, "many", 0).guest(0, 0, 3, 9, 1, 1, 0, 0);
    }

    private static void loseUnknown() {
        for (int k : Run.outOf(0, 3)) {
            Scene.LIVELY.idle(check, UNKNOWN, STAYS, "lose", k);
        }
    }

    // ---- promise 25

    /** "What comes to a cell of it is cut to its LANE." */
    private static void putIsCutToItsLane() {
        int[][] cuts = {{0, 0, 0}, {1, 1, 1}, {-1, -1, -1}, {127, 127, 127}, {128, -128, 128}, {129, -127, 129},
            {255, -1, 255}, {256, 0, 256}, {257, 1, 257}, {-128, -128, -128}, {-129, 127, -129}, {-256, 0, -256},
            {32767, -1, 32767}, {32768, 0, -32768}, {32769, 1, -32767}, {65535, -1, -1}, {65536, 0, 0}, {65537, 1, 1},
            {-32768, 0, -32768}, {-32769, -1, 32767}, {-65536, 0, 0}, {Run.MAX, -1, -1}, {Run.MIN, 0, 0}};
        for (int[] cut : cuts) {
            int v = cut[0];
            run("bytes").row(0, BYTES, 3, 3, 3).due(1, "put", 0, 1, v).due(cut[1], "cell", 0, 1, BYTES)
                .due(3, "cell", 0, 0, BYTES).due(3, "cell", 0, 2, BYTES);
            run("shorts").row(0, SHORTS, 3, 3, 3).due(1, "put", 0, 1, v).due(cut[2], "cell", 0, 1, SHORTS)
                .due(3, "cell", 0, 0, SHORTS).due(3, "cell", 0, 2, SHORTS);
            run("ints").row(0, INTS, 3, 3, 3).due(1, "put", 0, 1, v).due(v, "cell", 0, 1, INTS)
                .due(3, "cell", 0, 0, INTS).due(3, "cell", 0, 2, INTS);
        }
    }

    private static void putFirstAndLast() {
        Run run = run("first and last").due(1, "sheet", 2, SHORTS, 5).due(1, "put", 2, 0, 7).due(1, "put", 2, 4, 9).fault(0);
        run.due(INDEX, "put", 2, 5, 1).fault(3).due(INDEX, "put", 2, -1, 1).fault(3);
        run.due(7, "cell", 2, 0, SHORTS).due(0, "cell", 2, 1, SHORTS).due(0, "cell", 2, 3, SHORTS);
        run.due(9, "cell", 2, 4, SHORTS);
    }

    /** "UNKNOWN; NULL; INDEX." */
    private static void putFaults() {
        for (int k : Run.outOf(0, 3)) {
            Scene.LIVELY.idle(check, UNKNOWN, 0, "put", k, 0, 1);
        }
        for (int i : new int[] {0, -1, 1, 60, Run.MIN, Run.MAX}) {
            Scene.LIVELY.idle(check, NULL, 1, "put", 3, i, 1);
        }
        int[] lengths = {26, 6, 5};
        for (int k = 0; k < 3; k++) {
            for (int i : Run.outOf(0, lengths[k] - 1)) {
                Scene.LIVELY.idle(check, INDEX, 3, "put", k, i, 1);
            }
        }
    }

    // ---- promise 26

    private static void cellOfEachLane() {
        Run run = run("cells").row(0, BYTES, -128, 127).row(1, SHORTS, -32768, 32767).row(2, INTS, Run.MIN, Run.MAX);
        run.due(-128, "cell", 0, 0, BYTES).due(127, "cell", 0, 1, BYTES).fault(0);
        run.due(-32768, "cell", 1, 0, SHORTS).due(32767, "cell", 1, 1, SHORTS).fault(0);
        run.due(-2147483648L, "cell", 2, 0, INTS).due(2147483647L, "cell", 2, 1, INTS).fault(0);
    }

    /** "LOST: UNKNOWN, OUTSIDE: lane; FAULTS CAST (nothing is no CAST), NULL, INDEX." */
    private static void cellFaults() {
        for (int k : Run.outOf(0, 3)) {
            Scene.LIVELY.idle(check, LOST, 0, "cell", k, 0, BYTES);
        }
        for (int lane : Run.outOf(0, 2)) {
            Scene.LIVELY.idle(check, LOST, 0, "cell", 0, 0, lane);
            Scene.LIVELY.idle(check, LOST, 0, "cell", 3, 0, lane);
        }
        int[] lanes = {BYTES, INTS, SHORTS}, lengths = {26, 6, 5};
        for (int k = 0; k < 3; k++) {
            for (int lane = BYTES; lane <= INTS; lane++) {
                if (lane != lanes[k]) {
                    Scene.LIVELY.idle(check, LOST, 2, "cell", k, 0, lane);
                    Scene.LIVELY.idle(check, LOST, 2, "cell", k, -1, lane);
                    Scene.LIVELY.idle(check, LOST, 2, "cell", k, 60, lane);
                }
            }
            for (int i : Run.outOf(0, lengths[k] - 1)) {
                Scene.LIVELY.idle(check, LOST, 3, "cell", k, i, lanes[k]);
            }
        }
        for (int lane = BYTES; lane <= INTS; lane++) {
            Scene.LIVELY.idle(check, LOST, 1, "cell", 3, 0, lane);
            Scene.LIVELY.idle(check, LOST, 1, "cell", 3, -1, lane);
        }
        Scene.LIVELY.idle(check, 'h', 0, "cell", 0, 0, BYTES);
        Scene.LIVELY.idle(check, '4', 0, "cell", 0, 25, BYTES);
        Scene.LIVELY.idle(check, 9, 0, "cell", 2, 4, SHORTS);
        Scene.LIVELY.idle(check, 10, 0, "cell", 1, 5, INTS);
    }

    // ---- promise 27

    private static Run cells(Run run, int sheet, int lane, int... due) {
        for (int i = 0; i < due.length; i++) {
            run.due(due[i], "cell", sheet, i, lane);
        }
        return run.due(LOST, "cell", sheet, due.length, lane);
    }

    /** "n cells of a SHEET from i on go to another one from j on: n." */
    private static void copyJustAll() {
        for (int lane = BYTES; lane <= INTS; lane++) {
            Run run = run("just all").row(0, lane, 1, 2, 3).row(3, lane, 7, 8, 9).due(3, "copy", 0, 0, 3, 0, 3).fault(0);
            cells(cells(run, 3, lane, 1, 2, 3), 0, lane, 1, 2, 3);
            run.row(3, lane, 7, 8, 9).due(2, "copy", 0, 1, 3, 0, 2);
            cells(run, 3, lane, 2, 3, 9).due(1, "copy", 0, 2, 3, 2, 1);
            cells(run, 3, lane, 2, 3, 3).due(0, "copy", 0, 3, 3, 3, 0).due(0, "copy", 0, 0, 3, 3, 0);
            cells(run.fault(0), 3, lane, 2, 3, 3);
        }
        Run run = run("sixty").due(1, "sheet", 0, INTS, 60).due(1, "sheet", 1, INTS, 60).due(1, "put", 0, 0, 5);
        run.due(1, "put", 0, 59, 6).due(60, "copy", 0, 0, 1, 0, 60).due(5, "cell", 1, 0, INTS).due(6, "cell", 1, 59, INTS);
        run.due(INDEX, "copy", 0, 0, 1, 0, 61).due(INDEX, "copy", 0, 1, 1, 0, 60).due(INDEX, "copy", 0, 0, 1, 1, 60);
        run("of 0 cells").row(0, BYTES).row(1, BYTES).due(0, "copy", 0, 0, 1, 0, 0).due(INDEX, "copy", 0, 0, 1, 0, 1)
            .due(INDEX, "copy", 0, 1, 1, 0, 0).due(INDEX, "copy", 0, 0, 1, 1, 0);
    }

    /** "(perhaps the same) .., as they were". */
    private static void copyWithinOneSheet() {
        for (int lane = BYTES; lane <= INTS; lane++) {
            for (int i = 0; i <= 5; i++) {
                for (int j = 0; j <= 5; j++) {
                    int n = 5 - Math.max(i, j);
                    int[] due = {1, 2, 3, 4, 5};
                    for (int c = 0; c < n; c++) {
                        due[j + c] = 1 + i + c;
                    }
                    Run run = run("within one").row(2, lane, 1, 2, 3, 4, 5).due(n, "copy", 2, i, 2, j, n).fault(0);
                    cells(run, 2, lane, due).due(INDEX, "copy", 2, i, 2, j, n + 1);
                    cells(run, 2, lane, due);
                }
            }
        }
    }

    private static void copyToAnother() {
        for (int k = 0; k < 4; k++) {
            for (int other = 0; other < 4; other++) {
                if (other != k) {
                    Run run = run("from " + k + " to " + other).row(k, SHORTS, 1, 2, 3, 4).row(other, SHORTS, 5, 6, 7);
                    run.due(2, "copy", k, 2, other, 1, 2).fault(0);
                    cells(cells(run, k, SHORTS, 1, 2, 3, 4), other, SHORTS, 5, 3, 4);
                }
            }
        }
    }

    /** "UNKNOWN; FAULTS NULL (the first, the other), CAST (unlike LANES), INDEX: i, j, n below 0 or beyond." */
    private static void copyFaults() {
        for (int k : Run.outOf(0, 3)) {
            Scene.LIVELY.idle(check, UNKNOWN, 0, "copy", k, 0, 1, 0, 1);
            Scene.LIVELY.idle(check, UNKNOWN, 0, "copy", 1, 0, k, 0, 1);
            Scene.LIVELY.idle(check, UNKNOWN, 0, "copy", k, 0, 3, 0, 1);
            Scene.LIVELY.idle(check, UNKNOWN, 0, "copy", 3, 0, k, 0, 1);
        }
        for (int k = 0; k < 4; k++) {
            Scene.LIVELY.idle(check, NULL, 1, "copy", 3, 0, k, 0, 0);
            Scene.LIVELY.idle(check, NULL, 1, "copy", k, 0, 3, 0, 0);
            for (int other = 0; other < 3 && k < 3; other++) {
                boolean same = k == other;
                Scene.LIVELY.idle(check, same ? 0 : CAST, same ? 0 : 2, "copy", k, 0, other, 0, 0);
            }
        }
        int[][] wrong = {{-1, 0, 1}, {0, -1, 1}, {0, 0, -1}, {-1, -1, -1}, {6, 0, 1}, {0, 6, 1}, {7, 0, 0}, {0, 7, 0},
            {0, 0, 7}, {1, 0, 6}, {0, 1, 6}, {5, 0, 2}, {0, 5, 2}, {Run.MAX, 0, 1}, {0, Run.MAX, 1},
            {1, 1, Run.MAX}, {0, 0, Run.MAX},
            {Run.MIN, 0, 1}, {0, Run.MIN, 1}, {0, 0, Run.MIN}, {Run.MIN, 0, Run.MIN}, {Run.MAX, Run.MAX, Run.MAX}};
        for (int[] w : wrong) {
            Scene.LIVELY.idle(check, INDEX, 3, "copy", 1, w[0], 1, w[1], w[2]);
        }
    }

    // ---- promises 28, 29, 31

    /** "MISS (1): BEARS. COLONEL (2): what MISS's gives, and 100. BROKER (3): what COLONEL's gives, and MISS's". */
    private static void tellOfEachKind() {
        for (int bears = 1; bears <= 9; bears++) {
            Run run = run("tell").hotel("h1;m" + bears + "50;c" + bears + "50;b" + bears + "50");
            run.due(bears, "tell", 0).due(1, "trace").due(100 + bears, "tell", 1).due((31 + 2) * 31 + 1, "trace");
        }
        run("a MISS").hotel("h1;m950").due(9, "tell", 0).due(1, "trace");
        run("a COLONEL").hotel("h1;c950").due(109, "tell", 0).due(2 * 31 + 1, "trace");
        run("a BROKER").hotel("h1;b950").due(118, "tell", 0).due(((3 * 31 + 2) * 31 + 1) * 31 + 1, "trace");
        for (int k : Run.outOf(0, 3)) {
            Scene.LIVELY.idle(check, UNKNOWN, STAYS, "tell", k);
        }
    }

    /** "By a lent body (4): TABLE; BROKERS have their own (5): 70." */
    private static void bowToEachKind() {
        for (int table = 0; table <= 5; table++) {
            run("a MISS").hotel("h1;m95" + table).due(table, "bow", 0).due(4, "trace");
            run("a COLONEL").hotel("h1;c95" + table).due(table, "bow", 0).due(4, "trace");
            run("a BROKER").hotel("h1;b95" + table).due(70, "bow", 0).due(5, "trace").due(70, "bow", 0).due(160, "trace");
        }
        for (int k : Run.outOf(0, 3)) {
            Scene.LIVELY.idle(check, UNKNOWN, STAYS, "bow", k);
        }
    }

    /** "TRACE (an int that wraps, 0 at first, becomes 31 times it and the number)". */
    private static void traceWraps() {
        Run run = run("trace").hotel("h1;m950;b950").due(0, "trace");
        long[] due = {1, 32, 993, 30784, 954305, 29583456, 917087137, -1635069824, 852443009, 655929504};
        for (long trace : due) {
            run.go("tell", 0).due(trace, "trace");
        }
        Run bows = run("trace of bows").hotel("h1;b950");
        long[] bowed = {5, 160, 4965, 153920, 4771525, 147917280, 290468389, 414585472, -32752251, -1015319776};
        for (long trace : bowed) {
            bows.go("bow", 0).due(trace, "trace");
        }
    }

    /** Only telling and bowing leave a trace; a new hotel takes none away. */
    private static void traceAlone() {
        Run run = run("trace alone").hotel("h1;m950;c950").go("tell", 0).due(1, "trace").due(1, "trace");
        run.hotel("h1;m950;c950").due(1, "trace").go("as", 0, 0).go("as", 1, 1).go("give", 0, 0);
        run.go("ofGuest", 0, 0).go("weighs", 0, 1);
        run.go("leave", 1).go("arrive", 2, 1, 1, 1).go("kinds", 0).go("apart", 0).go("best", 0).due(1, "trace");
        run.go("tell", 5).go("bow", 5).due(1, "trace");
    }

    // ---- promise 30

    /** "CAST: he is none (each is a MISS, too; a BROKER is a COLONEL)". */
    private static void asEachKind() {
        int[][] due = {{1, CAST, CAST}, {1, 1, CAST}, {1, 1, 1}};
        for (int k = 0; k < 3; k++) {
            for (int kind = 0; kind <= 2; kind++) {
                Scene.LIVELY.idle(check, due[k][kind], due[k][kind] == 1 ? 0 : 2, "as", k, kind);
            }
        }
    }

    private static void asRefused() {
        for (int k : Run.outOf(0, 3)) {
            Scene.LIVELY.idle(check, UNKNOWN, 0, "as", k, 0);
        }
        for (int kind : Run.outOf(0, 2)) {
            for (int k = 0; k < 4; k++) {
                Scene.LIVELY.idle(check, OUTSIDE, 0, "as", k, kind);
            }
        }
        Scene.NO_HOTEL.idle(check, UNKNOWN, 0, "as", 0, 0);
    }

    // ---- promise 32

    /** "0 ahead of any". */
    private static void faultAheadOfAny() {
        run("fault").fault(0).fault(0).go("lose", 0).go("many", 0).go("trace").fault(0);
    }

    /** "0: it came to none". */
    private static void faultBehindACallThatCameToNone() {
        Object[][] calls = {{"hotel", 0, BYTES, 0, 26}, {"hotel", 0, BYTES, 0, 25}, {"dinner", 1, INTS, 0, 3, 0},
            {"dinner", 1, INTS, 0, 0, 15}, {"sheet", 0, BYTES, 3}, {"put", 0, 0, 0}, {"cell", 0, 0, BYTES},
            {"copy", 0, 0, 0, 1, 5}, {"copy", 2, 5, 2, 0, 0}, {"as", 2, 1}};
        for (Object[] call : calls) {
            made(call, 0);
        }
    }

    /** "Or was refused". */
    private static void faultBehindARefusedCall() {
        Object[][] calls = {{"hotel", 4, BYTES, 0, 26}, {"hotel", 0, 3, 0, 26}, {"dinner", 4, INTS, 0, 3, 0},
            {"dinner", 1, 3, 0, 3, 0}, {"dinner", 1, INTS, 0, 21, 0}, {"dinner", 1, INTS, 0, 3, 5},
            {"dinner", 2, SHORTS, 0, 2, 0}, {"dinner", 2, SHORTS, 1, 2, 0}, {"sheet", 4, BYTES, 3}, {"sheet", 0, 3, 3},
            {"sheet", 0, BYTES, 61}, {"put", 4, 0, 0}, {"cell", 4, 0, BYTES}, {"cell", 0, 0, 3}, {"copy", 4, 0, 0, 0, 0},
            {"copy", 0, 0, 4, 0, 0}, {"as", 4, 0}, {"as", 0, 3}};
        for (Object[] call : calls) {
            made(call, 0);
        }
        Run run = Scene.NO_HOTEL.made(check, "no hotel").due(Run.STATE, "dinner", 1, INTS, 0, 3, 0).fault(0);
        run.go("cell", 3, 0, BYTES).fault(1).due(UNKNOWN, "as", 0, 0).fault(0);
    }

    /** "The latest call that names one": others leave it as it was, whether they are refused or not. */
    private static void faultBehindCallsThatNameNone() {
        Object[][] calls = {{"ofGuest", 0, 0}, {"ofGuest", 9, 0}, {"hint", 0}, {"hint", 9}, {"word", 0, 5},
            {"word", 0, 0}, {"weighs", 0, 0}, {"weighs", 9, 0}, {"seat", 0, 0}, {"seat", 0, 6}, {"give", 0, 0},
            {"give", 1, 0}, {"give", 0, 3}, {"nights", 1}, {"nights", 0}, {"arrive", 0, 1, 1, 0},
            {"arrive", 3, 1, 1, 0}, {"leave", 0}, {"leave", 9}, {"softly", 0, 0}, {"softly", 3, 0}, {"just", 0, 1, 1},
            {"just", 0, 7, 1}, {"apart", 0}, {"apart", 6}, {"best", 0}, {"best", 6}, {"reading", 0, 0, 0},
            {"reading", 0, 0, 2}, {"back", 1}, {"back", 9}, {"bearings", 0}, {"bearings", 9}, {"kinds", 0},
            {"kinds", 9}, {"hintings", 0}, {"hintings", 9}, {"odds", 0, 0}, {"odds", 0, 2}, {"lose", 0}, {"lose", 3},
            {"lose", 4}, {"tell", 0}, {"tell", 9}, {"bow", 0}, {"bow", 9}, {"trace"}, {"many", 0}, {"many", 5},
            {"fault"}};
        for (Object[] call : calls) {
            made(call, STAYS);
        }
    }

    /** On a new scene, where fault() is 2: a call, and fault() behind it. */
    private static void made(Object[] call, int due) {
        int[] args = new int[call.length - 1];
        for (int i = 0; i < args.length; i++) {
            args[i] = (Integer) call[i + 1];
        }
        String title = "fault behind " + Arrays.toString(call);
        Scene.LIVELY.made(check, title).go((String) call[0], args).fault(due).fault(due);
    }

    // ---- promise 33

    /** "0 GUESTS, 1 SIGNS, 2 which NIGHT it is, 3 who KNOW, 4 READINGS (0 all without an HOTEL). OUTSIDE." */
    private static void manyOfEach() {
        int[][] due = {{4, 5, 2, 1, 2}, {0, 0, 0, 0, 0}, {6, 1, 0, 1, 8}, {1, 2, 3, 0, 1}};
        for (Scene scene : Scene.values()) {
            for (int what = 0; what <= 4; what++) {
                scene.idle(check, due[scene.ordinal()][what], STAYS, "many", what);
            }
            for (int what : Run.outOf(0, 4)) {
                scene.idle(check, OUTSIDE, STAYS, "many", what);
            }
        }
    }
}
