/** Promises 17 to 22: what befell. */
public final class ReadingsTest {
    private static final int UNKNOWN = StayingGuests.UNKNOWN, OUTSIDE = StayingGuests.OUTSIDE;
    private static final int FULL = StayingGuests.FULL;
    private static final long LOST = StayingGuests.LOST;
    private static final int ALL_DIGITS = 0b11_1111_1110, ALL_KINDS = 0b111;
    private static final Check check = new Check("ReadingsTest");

    public static void main(String[] args) {
        readingAndBack();
        readingRefused();
        bearings();
        kinds();
        hintings();
        othersAsTheyAre();
        askingChangesNothing();
        odds();
        check.end();
    }

    private static void readingAndBack() {
        StayingGuests x = Check.made("h5;m340");
        for (int r = 0; r < 8; r++) {
            check.due("reading", x.reading(0, 0, 1), r);
            check.due("READINGS", x.many(4), r + 1);
        }
        check.due("a ninth", x.reading(0, 0, 1), FULL);
        check.due("OUTSIDE ahead of FULL", x.reading(0, 0, 2), OUTSIDE);
        check.due("UNKNOWN ahead of OUTSIDE", x.reading(1, 0, 2), UNKNOWN);
        check.due("READINGS", x.many(4), 8);
        check.due("back(9)", x.back(9), OUTSIDE);
        check.due("back(-1)", x.back(-1), OUTSIDE);
        check.due("back(0)", x.back(0), 8);
        check.due("back(3)", x.back(3), 5);
        check.due("reading", x.reading(0, 0, 0), 5);
        check.due("it counts", x.bearings(0), 0);
        check.due("back(1)", x.back(1), 5);
        check.due("it counts no more", x.bearings(0), 0b11110);
        check.due("back(6)", x.back(6), OUTSIDE);
        check.due("back(5)", x.back(5), 0);
        check.due("back(1)", x.back(1), OUTSIDE);
        check.due("none count", x.bearings(0), ALL_DIGITS);
        StayingGuests none = new StayingGuests();
        check.due("back(0) without an HOTEL", none.back(0), 0);
        check.due("back(1) without an HOTEL", none.back(1), OUTSIDE);
    }

    private static void readingRefused() {
        StayingGuests x = Check.made("h5;m340");
        check.due("reading(1, 0, 0)", x.reading(1, 0, 0), UNKNOWN);
        check.due("reading(-1, 0, 0)", x.reading(-1, 0, 0), UNKNOWN);
        check.due("reading(0, 1, 0)", x.reading(0, 1, 0), UNKNOWN);
        check.due("reading(0, -1, 0)", x.reading(0, -1, 0), UNKNOWN);
        check.due("reading(0, 0, 2)", x.reading(0, 0, 2), OUTSIDE);
        check.due("reading(0, 0, -1)", x.reading(0, 0, -1), OUTSIDE);
        check.due("READINGS", x.many(4), 0);
    }

    private static void bearings() {
        StayingGuests x = Check.made("h519;m340;c340;b340");
        check.due("without READINGS", x.bearings(0), ALL_DIGITS);
        x.reading(0, 0, 1);
        check.due("SHOCKED by 5: 1 .. 4", x.bearings(0), 0b11110);
        x.back(1);
        x.reading(0, 1, 0);
        check.due("not SHOCKED by 4: 4 .. 9", x.bearings(1), 0b11_1111_0000);
        check.due("others: what is so is not so", x.bearings(0), 0);
        x.back(1);
        x.reading(0, 2, 0);
        check.due("not SHOCKED by 2: 2 .. 9", x.bearings(2), 0b11_1111_1100);
        x.reading(2, 2, 1);
        check.due("SHOCKED by 4: 2, 3", x.bearings(2), 0b1100);
        x.reading(1, 2, 1);
        check.due("SHOCKED by 0: never", x.bearings(2), 0);
        check.due("bearings(3)", x.bearings(3), UNKNOWN);
        check.due("bearings(-1)", x.bearings(-1), UNKNOWN);
    }

    private static void kinds() {
        StayingGuests x = Check.made("h5;m340;m440;m220");
        check.due("without READINGS", x.kinds(0), ALL_KINDS);
        x.reading(0, 0, 1);
        check.due("5 or 4 above 3", x.kinds(0), 0b011);
        x.back(1);
        x.reading(0, 1, 0);
        check.due("4 or 2 not above 4", x.kinds(1), 0b110);
        x.back(1);
        x.reading(0, 2, 0);
        check.due("2 not above 2", x.kinds(2), 0b100);
        x.reading(0, 2, 1);
        check.due("both", x.kinds(2), 0);
        check.due("kinds(3)", x.kinds(3), UNKNOWN);
        check.due("kinds(-1)", x.kinds(-1), UNKNOWN);
    }

    private static void hintings() {
        StayingGuests x = Check.made("h55;m340;c340;b340");
        check.due("without READINGS", x.hintings(0), ALL_DIGITS);
        x.reading(0, 0, 1);
        check.due("above 3", x.hintings(0), 0b11_1111_0000);
        x.reading(0, 1, 0);
        check.due("1 less not above 3", x.hintings(0), 0b1_0000);
        x.back(2);
        x.reading(0, 2, 1);
        check.due("half above 3", x.hintings(0), 0b11_0000_0000);
        x.back(1);
        x.reading(0, 2, 0);
        check.due("half not above 3", x.hintings(0), 0b1111_1110);
        check.due("another SIGN", x.hintings(1), ALL_DIGITS);
        check.due("hintings(2)", x.hintings(2), UNKNOWN);
        check.due("hintings(-1)", x.hintings(-1), UNKNOWN);
    }

    private static void othersAsTheyAre() {
        StayingGuests x = Check.made("h52;m340;m940");
        x.reading(0, 0, 1);
        x.reading(0, 1, 1);
        check.due("0 as the other is", x.bearings(0), 0);
        check.due("1", x.bearings(1), 0b11110);
        x.word(0, 9);
        check.due("by the HINT as it is now", x.bearings(1), 0b1_1111_1110);
        x.give(1, 0);
        x.give(1, 0);
        check.due("one who KNOWS too", x.reading(1, 0, 0), 2);
        check.due("SIGN 1", x.hintings(1), 0);
        x.back(2);
        x.reading(1, 0, 0);
        check.due("SIGN 1", x.hintings(1), 0b1110);
    }

    private static void askingChangesNothing() {
        StayingGuests x = Check.made("h52;m340;c940");
        x.reading(0, 0, 1);
        x.bearings(0);
        x.kinds(0);
        x.hintings(0);
        check.due("BEARS", x.ofGuest(0, 1), 3);
        check.due("kind", x.ofGuest(0, 0), 0);
        check.due("HINT", x.hint(0), 5);
        x.kinds(1);
        check.due("kind", x.ofGuest(1, 0), 1);
    }

    private static void odds() {
        oddsOf(Check.made("h12345;m340"), 3, 5);
        oddsOf(Check.made("h9999;m340"), 0, 1);
        oddsOf(Check.made("h9;m940"), 1, 1);
        oddsOf(Check.made("h1199;m840"), 1, 2);
        oddsOf(Check.made("h1233;c240"), 1, 1);
        oddsOf(Check.made("h1239;c140"), 1, 2);
        oddsOf(Check.made("h145;b140"), 1, 3);
        StayingGuests x = Check.made("h13;m211");
        x.give(0, 0);
        check.due("KNOWS", x.ofGuest(0, 5), 1);
        oddsOf(x, 1, 2);
        check.due("odds(0, 2)", x.odds(0, 2), LOST);
        check.due("odds(0, -1)", x.odds(0, -1), LOST);
        check.due("odds(1, 0)", x.odds(1, 0), LOST);
        check.due("odds(-1, 0)", x.odds(-1, 0), LOST);
    }

    private static void oddsOf(StayingGuests x, long upper, long lower) {
        check.due("odds(0, 0)", x.odds(0, 0), upper);
        check.due("odds(0, 1)", x.odds(0, 1), lower);
    }
}
