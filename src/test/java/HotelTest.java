/** Promises 1 to 7: a new object, the hotel. */
public final class HotelTest {
    private static final Check check = new Check("HotelTest");

    public static void main(String[] args) {
        newObject();
        textsTaken();
        firstFaults();
        hotelFaults();
        takenMakesAllAnew();
        refusedChangesNothing();
        ofGuest();
        hintsAndWords();
        weighs();
        seat();
        check.end();
    }

    private static void newObject() {
        StayingGuests x = new StayingGuests();
        for (int what = 0; what <= 4; what++) {
            check.due("new many(" + what + ")", x.many(what), 0);
        }
        for (int k = 0; k < 4; k++) {
            check.due("new lose(" + k + ")", x.lose(k), 0);
        }
        check.due("new ofGuest(0, 0)", x.ofGuest(0, 0), StayingGuests.UNKNOWN);
        check.due("new hint(0)", x.hint(0), StayingGuests.UNKNOWN);
        check.due("new nights(1)", x.nights(1), StayingGuests.STATE);
        check.due("new trace()", x.trace(), 0);
        check.due("new fault()", x.fault(), 0);
    }

    private static void textsTaken() {
        takes("h1;m110", 1);
        takes("h9;b995", 1);
        takes("h12345;m110;c110;b110;m110;c110;b110", 6);
        takes("h5;c555;c555", 2);
        StayingGuests x = new StayingGuests();
        Check.row(x, 2, 1, 2, 'h', '4', ';', 'b', '2', '3', '5', 7);
        check.due("hotel in the middle of a row of ints", x.hotel(2, 2, 2, 7), 1);
        check.due("its kind", x.ofGuest(0, 0), 2);
        check.due("its table", x.ofGuest(0, 3), 5);
        Check.row(x, 2, 'h' + 256, '4', ';', 'b', '2', '3', '5');
        check.due("an int is not cut to a byte", x.hotel(2, 2, 0, 7), -100);
    }

    private static void takes(String text, int guests) {
        check.due("hotel " + text, Check.hotel(new StayingGuests(), text), guests);
    }

    private static void firstFaults() {
        fault("", 0);
        fault("x", 0);
        fault("H1;m110", 0);
        fault("h", 1);
        fault("h;", 1);
        fault("h0", 1);
        fault("h1", 2);
        fault("hm", 1);
        fault("h1m", 2);
        fault("h10", 2);
        fault("h12345", 6);
        fault("h123456;m110", 6);
        fault("h1;", 3);
        fault("h1;;", 3);
        fault("h1;a110", 3);
        fault("h1;m", 4);
        fault("h1;m0", 4);
        fault("h1;m:", 4);
        fault("h1;m1", 5);
        fault("h1;m10", 5);
        fault("h1;m1;", 5);
        fault("h1;m11", 6);
        fault("h1;m116", 6);
        fault("h1;m11/", 6);
        fault("h1;m110;", 8);
        fault("h1;m1100", 7);
        fault("h1;m110m", 7);
        fault("h1;m110;c", 9);
        String six = "h1;m110;m110;m110;m110;m110;m110";
        fault(six + ";", six.length());
        fault(six + ";m110", six.length());
        fault(six + "1", six.length());
    }

    private static void fault(String text, int place) {
        check.due("hotel " + text, Check.hotel(new StayingGuests(), text), -100 - place);
    }

    private static void hotelFaults() {
        StayingGuests x = Check.made("h1;m110");
        check.due("hotel(-1, 9, ..)", x.hotel(-1, 9, 0, 7), StayingGuests.UNKNOWN);
        check.due("hotel(4, ..)", x.hotel(4, 0, 0, 7), StayingGuests.UNKNOWN);
        check.due("hotel of lane -1", x.hotel(0, -1, 0, 7), StayingGuests.OUTSIDE);
        check.due("hotel of lane 3", x.hotel(3, 3, 0, 7), StayingGuests.OUTSIDE);
        check.due("hotel CAST ahead of SIZE", x.hotel(0, 1, 0, -1), -12);
        check.due("fault", x.fault(), 2);
        check.due("hotel NULL ahead of SIZE", x.hotel(1, 1, 0, -1), -11);
        check.due("fault", x.fault(), 1);
        check.due("hotel SIZE ahead of INDEX", x.hotel(0, 0, 99, -1), -14);
        check.due("fault", x.fault(), 4);
        check.due("hotel refused", x.hotel(4, 0, 0, 7), StayingGuests.UNKNOWN);
        check.due("fault of a refused call", x.fault(), 0);
        check.due("hotel too long", x.hotel(0, 0, 0, 8), -13);
        check.due("fault", x.fault(), 3);
        check.due("hotel too far", x.hotel(0, 0, 1, 7), -13);
        check.due("hotel ahead of the row", x.hotel(0, 0, -1, 1), -13);
        check.due("hotel of none ahead of the row", x.hotel(0, 0, -1, 0), -13);
        check.due("hotel of none beyond", x.hotel(0, 0, 8, 0), -13);
        check.due("hotel of none at the end", x.hotel(0, 0, 7, 0), -100);
        check.due("fault", x.fault(), 0);
        check.due("hotel of very many", x.hotel(0, 0, 1, Integer.MAX_VALUE), -13);
        check.due("hotel very far", x.hotel(0, 0, Integer.MAX_VALUE, 1), -13);
        check.due("hotel least n", x.hotel(0, 0, 0, Integer.MIN_VALUE), -14);
        check.due("the hotel still stands", x.many(0), 1);
    }

    private static void takenMakesAllAnew() {
        StayingGuests x = Check.made("h19;m320;c450");
        x.give(0, 0);
        x.give(1, 1);
        x.give(0, 0);
        x.nights(3);
        x.reading(0, 0, 1);
        x.tell(0);
        check.due("who KNOW ahead", x.many(3), 1);
        check.due("SHOCKED ahead", x.ofGuest(1, 6), 1);
        check.due("hotel anew", Check.hotel(x, "h19;m320;c450"), 2);
        check.due("NIGHT anew", x.many(2), 0);
        check.due("who KNOW anew", x.many(3), 0);
        check.due("READINGS anew", x.many(4), 0);
        check.due("GATHERED anew", x.ofGuest(0, 4), 0);
        check.due("SHOCKED anew", x.ofGuest(1, 6), 0);
        check.due("TRACE is not the hotel's", x.trace(), 1);
        x.give(1, 1);
        check.due("a shorter one", Check.hotel(x, "h7;m320;c450"), 2);
        check.due("SIGNS anew", x.many(1), 1);
        check.due("HINT anew", x.hint(0), 7);
        check.due("SHOCKED anew", x.ofGuest(1, 6), 0);
    }

    private static void refusedChangesNothing() {
        StayingGuests x = Check.made("h19;m320;c451");
        x.give(0, 0);
        x.nights(1);
        x.give(0, 0);
        x.reading(0, 0, 1);
        check.due("a wrong text", Check.hotel(x, "h777;b991;b99"), -113);
        check.due("SIGNS", x.many(1), 2);
        check.due("GUESTS", x.many(0), 2);
        check.due("NIGHT", x.many(2), 1);
        check.due("READINGS", x.many(4), 1);
        check.due("kind", x.ofGuest(0, 0), 0);
        check.due("GATHERED", x.ofGuest(0, 4), 1);
        check.due("TABLE", x.ofGuest(1, 3), 1);
        check.due("HINT", x.hint(1), 9);
    }

    private static void ofGuest() {
        StayingGuests x = Check.made("h19;m320;c451;b175");
        int[][] due = {{0, 3, 2, 0, 0, 0, 0}, {1, 4, 5, 1, 0, 0, 0}, {2, 1, 7, 5, 0, 0, 0}};
        for (int k = 0; k < due.length; k++) {
            for (int what = 0; what <= 6; what++) {
                check.due("ofGuest(" + k + ", " + what + ")", x.ofGuest(k, what), due[k][what]);
            }
        }
        check.due("ofGuest(0, -1)", x.ofGuest(0, -1), StayingGuests.OUTSIDE);
        check.due("ofGuest(0, 7)", x.ofGuest(0, 7), StayingGuests.OUTSIDE);
        check.due("ofGuest(3, 7)", x.ofGuest(3, 7), StayingGuests.UNKNOWN);
        check.due("ofGuest(-1, 0)", x.ofGuest(-1, 0), StayingGuests.UNKNOWN);
    }

    private static void hintsAndWords() {
        StayingGuests x = Check.made("h19;m320");
        check.due("hint(0)", x.hint(0), 1);
        check.due("hint(1)", x.hint(1), 9);
        check.due("hint(2)", x.hint(2), StayingGuests.UNKNOWN);
        check.due("hint(-1)", x.hint(-1), StayingGuests.UNKNOWN);
        check.due("word(1, 4)", x.word(1, 4), 9);
        check.due("word(1, 9)", x.word(1, 9), 4);
        check.due("word(1, 1)", x.word(1, 1), 9);
        check.due("hint(1)", x.hint(1), 1);
        check.due("word(1, 0)", x.word(1, 0), StayingGuests.OUTSIDE);
        check.due("word(1, 10)", x.word(1, 10), StayingGuests.OUTSIDE);
        check.due("word(2, 0)", x.word(2, 0), StayingGuests.UNKNOWN);
        check.due("word(-1, 5)", x.word(-1, 5), StayingGuests.UNKNOWN);
        check.due("hint(1)", x.hint(1), 1);
    }

    private static void weighs() {
        StayingGuests x = Check.made("h1;m110;c110;b110");
        for (int hint = 1; hint <= 9; hint++) {
            x.word(0, hint);
            check.due("weighs with a MISS", x.weighs(0, 0), hint);
            check.due("weighs with a COLONEL", x.weighs(0, 1), hint - 1);
            check.due("weighs with a BROKER", x.weighs(0, 2), hint / 2);
        }
        check.due("weighs(1, 0)", x.weighs(1, 0), StayingGuests.UNKNOWN);
        check.due("weighs(-1, 0)", x.weighs(-1, 0), StayingGuests.UNKNOWN);
        check.due("weighs(0, 3)", x.weighs(0, 3), StayingGuests.UNKNOWN);
        check.due("weighs(0, -1)", x.weighs(0, -1), StayingGuests.UNKNOWN);
    }

    private static void seat() {
        StayingGuests x = Check.made("h1;m110;c113");
        check.due("seat(1, 5)", x.seat(1, 5), 3);
        check.due("seat(1, 0)", x.seat(1, 0), 5);
        check.due("TABLE", x.ofGuest(1, 3), 0);
        check.due("seat(1, 6)", x.seat(1, 6), StayingGuests.OUTSIDE);
        check.due("seat(1, -1)", x.seat(1, -1), StayingGuests.OUTSIDE);
        check.due("seat(2, 6)", x.seat(2, 6), StayingGuests.UNKNOWN);
        check.due("seat(-1, 0)", x.seat(-1, 0), StayingGuests.UNKNOWN);
        check.due("TABLE", x.ofGuest(1, 3), 0);
        x.give(0, 0);
        check.due("KNOWS", x.ofGuest(0, 5), 1);
        check.due("seat of one who KNOWS", x.seat(0, 2), 0);
    }
}
