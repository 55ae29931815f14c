/** Promises 23 to 33: sheets, parts. */
public final class SheetsTest {
    private static final int UNKNOWN = StayingGuests.UNKNOWN, OUTSIDE = StayingGuests.OUTSIDE;
    private static final long LOST = StayingGuests.LOST;
    private static final int NULL = -11, CAST = -12, INDEX = -13, SIZE = -14;
    private static final Check check = new Check("SheetsTest");

    public static void main(String[] args) {
        constants();
        sheet();
        lose();
        putIsCut();
        putFaults();
        cell();
        copy();
        copyFaults();
        tellAndTrace();
        bow();
        as();
        fault();
        many();
        check.end();
    }

    private static void constants() {
        check.due("UNKNOWN", StayingGuests.UNKNOWN, -1);
        check.due("OUTSIDE", StayingGuests.OUTSIDE, -2);
        check.due("STATE", StayingGuests.STATE, -3);
        check.due("FULL", StayingGuests.FULL, -4);
        check.due("NONE", StayingGuests.NONE, -9);
        check.due("LOST", StayingGuests.LOST, Long.MIN_VALUE);
    }

    private static void sheet() {
        StayingGuests x = new StayingGuests();
        check.due("sheet(0, 0, 60)", x.sheet(0, 0, 60), 1);
        check.due("the last cell", x.cell(0, 59, 0), 0);
        check.due("put", x.put(0, 3, 7), 1);
        check.due("sheet(0, 1, 4)", x.sheet(0, 1, 4), 1);
        check.due("anew", x.cell(0, 3, 1), 0);
        check.due("shorter", x.cell(0, 4, 1), LOST);
        check.due("sheet(3, 2, 0)", x.sheet(3, 2, 0), 1);
        check.due("has no cells", x.put(3, 0, 1), INDEX);
        check.due("sheet(4, 9, -1)", x.sheet(4, 9, -1), UNKNOWN);
        check.due("sheet(-1, 0, 1)", x.sheet(-1, 0, 1), UNKNOWN);
        check.due("sheet(0, 3, -1)", x.sheet(0, 3, -1), OUTSIDE);
        check.due("sheet(0, -1, 1)", x.sheet(0, -1, 1), OUTSIDE);
        check.due("sheet(0, 0, 61)", x.sheet(0, 0, 61), OUTSIDE);
        check.due("sheet(0, 0, most)", x.sheet(0, 0, Integer.MAX_VALUE), OUTSIDE);
        check.due("sheet(0, 0, -1)", x.sheet(0, 0, -1), SIZE);
        check.due("fault", x.fault(), 4);
        check.due("sheet(0, 0, least)", x.sheet(0, 0, Integer.MIN_VALUE), SIZE);
        check.due("the row stays", x.cell(0, 3, 1), 0);
    }

    private static void lose() {
        StayingGuests x = new StayingGuests();
        x.sheet(2, 0, 3);
        x.put(2, 0, 5);
        check.due("lose(2)", x.lose(2), 1);
        check.due("lose(2) again", x.lose(2), 0);
        check.due("put in nothing", x.put(2, 0, 5), NULL);
        check.due("lose(1)", x.lose(1), 0);
        check.due("lose names no FAULT", x.fault(), 1);
        check.due("lose(4)", x.lose(4), UNKNOWN);
        check.due("lose(-1)", x.lose(-1), UNKNOWN);
        check.due("a refused lose names no FAULT", x.fault(), 1);
        x.sheet(2, 0, 3);
        check.due("anew behind lose", x.cell(2, 0, 0), 0);
    }

    private static void putIsCut() {
        StayingGuests x = new StayingGuests();
        int[] values = {0, 1, -1, 127, 128, 255, 256, -128, -129, 32767, 32768, 65535, 65536, -32769,
            Integer.MAX_VALUE, Integer.MIN_VALUE};
        for (int v : values) {
            x.sheet(0, 0, 1);
            check.due("put " + v, x.put(0, 0, v), 1);
            check.due("as a byte " + v, x.cell(0, 0, 0), (byte) v);
            x.sheet(0, 1, 1);
            x.put(0, 0, v);
            check.due("as a short " + v, x.cell(0, 0, 1), (short) v);
            x.sheet(0, 2, 1);
            x.put(0, 0, v);
            check.due("as an int " + v, x.cell(0, 0, 2), v);
        }
    }

    private static void putFaults() {
        StayingGuests x = new StayingGuests();
        check.due("put(4, 0, 1)", x.put(4, 0, 1), UNKNOWN);
        check.due("put(-1, 0, 1)", x.put(-1, 0, 1), UNKNOWN);
        check.due("nothing", x.put(0, -1, 1), NULL);
        check.due("fault", x.fault(), 1);
        x.sheet(0, 0, 2);
        check.due("put(0, 2, 1)", x.put(0, 2, 1), INDEX);
        check.due("fault", x.fault(), 3);
        check.due("put(0, -1, 1)", x.put(0, -1, 1), INDEX);
        check.due("put(0, 1, 1)", x.put(0, 1, 1), 1);
        check.due("fault", x.fault(), 0);
        check.due("cell 0", x.cell(0, 0, 0), 0);
        check.due("cell 1", x.cell(0, 1, 0), 1);
    }

    private static void cell() {
        StayingGuests x = new StayingGuests();
        x.sheet(0, 1, 2);
        x.put(0, 1, -5);
        check.due("cell", x.cell(0, 1, 1), -5);
        check.due("fault", x.fault(), 0);
        lost(x, x.cell(0, 9, 0), 2);
        lost(x, x.cell(0, 1, 2), 2);
        lost(x, x.cell(1, 9, 0), 1);
        lost(x, x.cell(0, 2, 1), 3);
        lost(x, x.cell(0, -1, 1), 3);
        lost(x, x.cell(0, 1, 3), 0);
        x.put(0, 9, 0);
        lost(x, x.cell(0, 1, -1), 0);
        x.put(0, 9, 0);
        lost(x, x.cell(4, 1, 1), 0);
        x.put(0, 9, 0);
        lost(x, x.cell(-1, 1, 1), 0);
    }

    private static void lost(StayingGuests x, long got, int fault) {
        check.due("a cell that is LOST", got, LOST);
        check.due("its fault", x.fault(), fault);
    }

    private static void copy() {
        StayingGuests x = new StayingGuests();
        Check.row(x, 0, 1, 2, 3, 4, 5);
        check.due("onto itself, upwards", x.copy(0, 0, 0, 1, 4), 4);
        cells(x, 0, 1, 1, 2, 3, 4);
        check.due("onto itself, downwards", x.copy(0, 1, 0, 0, 4), 4);
        cells(x, 0, 1, 2, 3, 4, 4);
        Check.row(x, 1, 9, 9, 9);
        check.due("to another", x.copy(0, 2, 1, 1, 2), 2);
        cells(x, 1, 9, 3, 4);
        cells(x, 0, 1, 2, 3, 4, 4);
        check.due("none", x.copy(0, 5, 1, 3, 0), 0);
        check.due("fault", x.fault(), 0);
        check.due("all", x.copy(1, 0, 0, 2, 3), 3);
        cells(x, 0, 1, 2, 9, 3, 4);
    }

    private static void cells(StayingGuests x, int sheet, int... due) {
        for (int i = 0; i < due.length; i++) {
            check.due("cell " + i + " of sheet " + sheet, x.cell(sheet, i, 2), due[i]);
        }
    }

    private static void copyFaults() {
        StayingGuests x = new StayingGuests();
        Check.row(x, 0, 1, 2, 3);
        Check.row(x, 1, 4, 5);
        x.sheet(2, 0, 3);
        check.due("copy(4, ..)", x.copy(4, 0, 3, 0, 1), UNKNOWN);
        check.due("copy(-1, ..)", x.copy(-1, 0, 0, 0, 1), UNKNOWN);
        check.due("copy to 4", x.copy(3, 0, 4, 0, 1), UNKNOWN);
        check.due("copy to -1", x.copy(0, 0, -1, 0, 1), UNKNOWN);
        check.due("nothing, the first", x.copy(3, -1, 2, 0, 1), NULL);
        check.due("nothing, the other", x.copy(2, -1, 3, 0, 1), NULL);
        check.due("fault", x.fault(), 1);
        check.due("unlike LANES", x.copy(0, -1, 2, 0, 1), CAST);
        check.due("fault", x.fault(), 2);
        int[][] wrong = {{-1, 0, 1}, {0, -1, 1}, {0, 0, -1}, {3, 0, 1}, {0, 2, 1}, {0, 0, 3}, {2, 0, 2},
            {4, 0, 0}, {0, 3, 0}, {-1, 0, 0}, {0, -1, 0}, {1, 1, Integer.MAX_VALUE},
            {Integer.MAX_VALUE, 0, 1}, {0, Integer.MAX_VALUE, 1}, {0, 0, Integer.MIN_VALUE}};
        for (int[] w : wrong) {
            check.due("copy(0, " + w[0] + ", 1, " + w[1] + ", " + w[2] + ")", x.copy(0, w[0], 1, w[1], w[2]), INDEX);
            check.due("fault", x.fault(), 3);
        }
        cells(x, 0, 1, 2, 3);
        cells(x, 1, 4, 5);
    }

    private static void tellAndTrace() {
        StayingGuests x = Check.made("h1;m310;c410;b510");
        check.due("tell a MISS", x.tell(0), 3);
        check.due("trace", x.trace(), traceOf(1));
        check.due("tell a COLONEL", x.tell(1), 104);
        check.due("trace", x.trace(), traceOf(1, 2, 1));
        check.due("tell a BROKER", x.tell(2), 110);
        check.due("trace", x.trace(), traceOf(1, 2, 1, 3, 2, 1, 1));
        check.due("tell(3)", x.tell(3), UNKNOWN);
        check.due("tell(-1)", x.tell(-1), UNKNOWN);
        check.due("a refused tell leaves no TRACE", x.trace(), traceOf(1, 2, 1, 3, 2, 1, 1));
        StayingGuests y = Check.made("h1;b911");
        int[] bodies = new int[80];
        for (int i = 0; i < bodies.length; i += 4) {
            y.tell(0);
            bodies[i] = 3;
            bodies[i + 1] = 2;
            bodies[i + 2] = 1;
            bodies[i + 3] = 1;
        }
        check.due("TRACE wraps", y.trace(), traceOf(bodies));
    }

    private static int traceOf(int... bodies) {
        int trace = 0;
        for (int body : bodies) {
            trace = 31 * trace + body;
        }
        return trace;
    }

    private static void bow() {
        StayingGuests x = Check.made("h1;m313;c414;b512");
        check.due("bow to a MISS", x.bow(0), 3);
        check.due("bow to a COLONEL", x.bow(1), 4);
        check.due("bow to a BROKER", x.bow(2), 70);
        check.due("trace", x.trace(), traceOf(4, 4, 5));
        x.seat(0, 5);
        check.due("bow to her elsewhere", x.bow(0), 5);
        check.due("bow(3)", x.bow(3), UNKNOWN);
        check.due("bow(-1)", x.bow(-1), UNKNOWN);
        check.due("trace", x.trace(), traceOf(4, 4, 5, 4));
    }

    private static void as() {
        StayingGuests x = Check.made("h1;m313;c414;b512");
        for (int k = 0; k <= 2; k++) {
            for (int kind = 0; kind <= 2; kind++) {
                check.due("as(" + k + ", " + kind + ")", x.as(k, kind), kind <= k ? 1 : CAST);
                check.due("fault", x.fault(), kind <= k ? 0 : 2);
            }
            check.due("as(" + k + ", 3)", x.as(k, 3), OUTSIDE);
            check.due("as(" + k + ", -1)", x.as(k, -1), OUTSIDE);
        }
        x.as(0, 2);
        check.due("as(3, 3)", x.as(3, 3), UNKNOWN);
        check.due("fault", x.fault(), 0);
        check.due("as(-1, 0)", x.as(-1, 0), UNKNOWN);
    }

    /** A fault stays told by the calls that name none, and ends with the next one that names some. */
    private static void fault() {
        StayingGuests x = Check.made("h1;m913;c914;b912");
        x.as(0, 2);
        x.ofGuest(9, 9);
        x.hint(9);
        x.word(9, 9);
        x.weighs(0, 0);
        x.seat(0, 0);
        x.give(0, 2);
        x.nights(1);
        x.arrive(0, 1, 1, 1);
        x.leave(0);
        x.softly(0, 0);
        x.just(0, 0, 0);
        x.apart(0);
        x.best(0);
        x.reading(0, 0, 0);
        x.back(0);
        x.bearings(0);
        x.kinds(0);
        x.hintings(0);
        x.odds(0, 0);
        x.lose(1);
        x.tell(0);
        x.bow(0);
        x.trace();
        x.many(9);
        check.due("still told", x.fault(), 2);
        check.due("still told", x.fault(), 2);
        x.sheet(1, 0, 2);
        check.due("sheet names some", x.fault(), 0);
        x.as(0, 2);
        x.put(1, 0, 0);
        check.due("put names some", x.fault(), 0);
        x.as(0, 2);
        x.cell(1, 0, 0);
        check.due("cell names some", x.fault(), 0);
        x.as(0, 2);
        x.copy(1, 0, 1, 1, 1);
        check.due("copy names some", x.fault(), 0);
        x.as(0, 2);
        x.dinner(1, 0, 0, 0, 0);
        check.due("dinner names some", x.fault(), 0);
        x.as(0, 2);
        x.hotel(1, 0, 0, 2);
        check.due("hotel names some, of a wrong text too", x.fault(), 0);
        refusedToo(x);
    }

    private static void refusedToo(StayingGuests x) {
        x.as(0, 2);
        x.sheet(9, 0, 2);
        check.due("sheet refused", x.fault(), 0);
        x.as(0, 2);
        x.put(9, 0, 0);
        check.due("put refused", x.fault(), 0);
        x.as(0, 2);
        x.copy(9, 0, 1, 1, 1);
        check.due("copy refused", x.fault(), 0);
        x.as(0, 2);
        x.dinner(9, 0, 0, 0, 0);
        check.due("dinner refused", x.fault(), 0);
        x.as(0, 2);
        x.hotel(9, 0, 0, 2);
        check.due("hotel refused", x.fault(), 0);
    }

    private static void many() {
        StayingGuests x = Check.made("h123;m110;c211;b312;m113");
        x.give(0, 0);
        x.nights(7);
        x.reading(0, 0, 0);
        x.reading(0, 1, 0);
        int[] due = {4, 3, 7, 1, 2};
        for (int what = 0; what <= 4; what++) {
            check.due("many(" + what + ")", x.many(what), due[what]);
        }
        check.due("many(5)", x.many(5), OUTSIDE);
        check.due("many(-1)", x.many(-1), OUTSIDE);
        x.give(2, 2);
        check.due("half of 3 with a BROKER", x.many(3), 2);
    }
}
