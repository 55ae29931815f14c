/** Promises 13 to 16: how it should dawn. */
public final class DawnTest {
    private static final int UNKNOWN = StayingGuests.UNKNOWN, OUTSIDE = StayingGuests.OUTSIDE;
    private static final int STATE = StayingGuests.STATE, NONE = StayingGuests.NONE;
    private static final Check check = new Check("DawnTest");

    public static void main(String[] args) {
        softlyRows();
        softlyRefused();
        just();
        apart();
        apartRefused();
        best();
        bestRefused();
        check.end();
    }

    private static void softlyRows() {
        softly(Check.made("h1;m190"), 0, 0, 0, 0, 0, 0, 0, 0, 0, 0);
        softly(Check.made("h9;m990"), 0, 0);
        softly(Check.made("h321;m950"), 0, 0, 0);
        softly(Check.made("h134;m960"), 0, 1, 1);
        softly(Check.made("h123;m950"), 0, 1, 2);
        softly(Check.made("h14;m990"), 0, 0, 1, 1);
        softly(Check.made("h44;m480"), 0, 0, 0);
        softly(Check.made("h59;m480"), 0);
        softly(Check.made("h1;c990"), 0);
        softly(Check.made("h1;b990"), 0);
        softly(Check.made("h15;c480"), 0, 1, 1);
        softly(Check.made("h19;b370"), 0);
        softly(Check.made("h29;b470"), 0, 1, 1);
        StayingGuests x = Check.made("h32;m390");
        x.give(0, 0);
        x.give(0, 0);
        softly(x, 0, 0);
        x.nights(1);
        softly(x, 0, 0, 0);
        x.give(1, 0);
        softly(x, 0, 0);
    }

    // The row is the one due: so many signs, these, and none behind them.
    private static void softly(StayingGuests x, int k, int... row) {
        check.due("softly(" + k + ", -1)", x.softly(k, -1), row.length == 0 ? NONE : row.length);
        for (int i = 0; i <= 8; i++) {
            check.due("softly(" + k + ", " + i + ")", x.softly(k, i), i < row.length ? row[i] : NONE);
        }
    }

    private static void softlyRefused() {
        StayingGuests x = Check.made("h1;m110");
        check.due("softly(1, 99)", x.softly(1, 99), UNKNOWN);
        check.due("softly(-1, 0)", x.softly(-1, 0), UNKNOWN);
        check.due("softly(0, -2)", x.softly(0, -2), OUTSIDE);
        check.due("softly(0, 9)", x.softly(0, 9), OUTSIDE);
        x.give(0, 0);
        check.due("softly(0, 9) of one who KNOWS", x.softly(0, 9), OUTSIDE);
        check.due("softly(0, -1) of one who KNOWS", x.softly(0, -1), STATE);
        check.due("softly(0, 0) of one who KNOWS", x.softly(0, 0), STATE);
    }

    private static void just() {
        StayingGuests x = Check.made("h22222;m210;c210;m110;b310");
        check.due("no SIGNS weigh 0", x.just(0, 0, 0), 1);
        check.due("no SIGNS weigh 1", x.just(0, 0, 1), 0);
        check.due("one of five", x.just(0, 1, 2), 5);
        check.due("six of five", x.just(0, 6, 12), 15625);
        check.due("six of five, another sum", x.just(0, 6, 11), 0);
        check.due("six of five that weigh 1", x.just(1, 6, 6), 15625);
        check.due("SIGNS that he can't bear", x.just(2, 1, 2), 0);
        check.due("none of SIGNS that he can't bear", x.just(2, 0, 0), 1);
        StayingGuests y = Check.made("h9;m910");
        check.due("54", y.just(0, 6, 54), 1);
        check.due("53", y.just(0, 6, 53), 0);
        StayingGuests z = Check.made("h12;c110");
        check.due("SIGNS that weigh 0 are none", z.just(0, 2, 1), 0);
        check.due("SIGNS that weigh 0 are none", z.just(0, 1, 0), 0);
        check.due("SIGNS that weigh 1", z.just(0, 2, 2), 1);
        StayingGuests w = Check.made("h123;m311");
        check.due("rows, not sets", w.just(0, 3, 6), 7);
        w.give(2, 0);
        check.due("of one who KNOWS", w.just(0, 3, 6), 7);
        check.due("just(1, 7, 0)", w.just(1, 7, 0), UNKNOWN);
        check.due("just(-1, 0, 0)", w.just(-1, 0, 0), UNKNOWN);
        check.due("just(0, 7, 0)", w.just(0, 7, 0), OUTSIDE);
        check.due("just(0, -1, 0)", w.just(0, -1, 0), OUTSIDE);
        check.due("just(0, 0, 55)", w.just(0, 0, 55), OUTSIDE);
        check.due("just(0, 0, -1)", w.just(0, 0, -1), OUTSIDE);
    }

    private static void apart() {
        apart(Check.made("h9;m990"), 0);
        apart(Check.made("h9;m990;c990;b990"), 0, 0, 0);
        apart(Check.made("h9;m990;m990;m990;m990;m990;m990"), 0, 1, 2, 3, 4, 5);
        apart(Check.made("h9;m990;c990;m990;c990;b990;b990"), 0, 0, 1, 1, 0, 1);
        StayingGuests x = Check.made("h9;m110;c111;b112;m193");
        for (int k = 0; k < 3; k++) {
            check.due("give", x.give(0, k), NONE);
        }
        apart(x, 0, 1, 2, 1);
        x.give(0, 3);
        apart(x, 0, 1, 2, 3);
        x.word(0, 1);
        check.due("give", x.give(0, 0), 1);
        apart(x, NONE, 0, 1, 2);
        // The least free table for each in turn would be 0, 0, 1, 2: one table too many.
        StayingGuests y = Check.made("h9;c990;b990;c110;b110");
        y.give(0, 2);
        y.give(0, 3);
        apart(y, 0, 1, 1, 0);
        StayingGuests z = Check.made("h9;m110;c990;b110");
        z.give(0, 0);
        apart(z, 0, 0, 0);
        z.give(0, 2);
        apart(z, 0, 0, 1);
        StayingGuests v = Check.made("h1;m110;c111");
        v.give(0, 0);
        v.word(0, 2);
        v.give(0, 1);
        check.due("all KNOW", v.many(3), 2);
        apart(v, NONE, NONE);
    }

    // The row is the one due, and so are how many tables it has.
    private static void apart(StayingGuests x, int... row) {
        int tables = 0;
        for (int table : row) {
            tables = Math.max(tables, table + 1);
        }
        check.due("apart(-1)", x.apart(-1), tables);
        for (int k = 0; k <= 5; k++) {
            check.due("apart(" + k + ")", x.apart(k), k < row.length ? row[k] : NONE);
        }
    }

    private static void apartRefused() {
        StayingGuests x = new StayingGuests();
        check.due("apart(-2)", x.apart(-2), OUTSIDE);
        check.due("apart(6)", x.apart(6), OUTSIDE);
        check.due("apart(-1)", x.apart(-1), STATE);
        check.due("apart(5)", x.apart(5), STATE);
    }

    private static void best() {
        best(Check.made("h9;m910"), 1, 9, 0);
        best(Check.made("h9;m810"), 0, 0, NONE);
        best(Check.made("h5;m590"), 0, 0, NONE);
        best(Check.made("h97;m950"), 1, 7, 1);
        best(Check.made("h77;m950"), 1, 7, 0);
        best(Check.made("h7;m950;m950"), 1, 7, 0, NONE);
        best(Check.made("h79;m950;m980"), 2, 16, 0, 1);
        best(Check.made("h97;m950;m980"), 2, 16, 1, 0);
        best(Check.made("h77777;m910;m910;m910;m910;m910;m910"), 5, 35, 0, 1, 2, 3, 4, NONE);
        best(Check.made("h26;c960;b930;m920"), 2, 8, NONE, 1, 0);
        best(Check.made("h123;m910;m910"), 2, 3, 0, 1);
        best(Check.made("h321;m910;m910"), 2, 3, 1, 2);
        // Those who sit together count each alone.
        best(Check.made("h2;m920;m910"), 1, 2, 0, NONE);
        StayingGuests x = Check.made("h39;m340;m930");
        x.give(1, 0);
        best(x, 1, 3, NONE, 0);
        x.give(0, 0);
        best(x, 2, 12, 0, 1);
        x.give(0, 0);
        best(x, 1, 3, NONE, 0);
        x.give(0, 1);
        best(x, 0, 0, NONE, NONE);
    }

    // So many come to know, by so many hints, with the row due.
    private static void best(StayingGuests x, int dawned, int hints, int... row) {
        check.due("best(-2)", x.best(-2), dawned);
        check.due("best(-1)", x.best(-1), hints);
        for (int k = 0; k <= 5; k++) {
            check.due("best(" + k + ")", x.best(k), k < row.length ? row[k] : NONE);
        }
    }

    private static void bestRefused() {
        StayingGuests x = new StayingGuests();
        check.due("best(-3)", x.best(-3), OUTSIDE);
        check.due("best(6)", x.best(6), OUTSIDE);
        check.due("best(-2)", x.best(-2), STATE);
        check.due("best(5)", x.best(5), STATE);
    }
}
