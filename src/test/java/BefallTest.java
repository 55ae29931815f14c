/** Promises 8 to 12: what befalls. */
public final class BefallTest {
    private static final int UNKNOWN = StayingGuests.UNKNOWN, OUTSIDE = StayingGuests.OUTSIDE;
    private static final int STATE = StayingGuests.STATE, FULL = StayingGuests.FULL, NONE = StayingGuests.NONE;
    private static final Check check = new Check("BefallTest");

    public static void main(String[] args) {
        giveGathers();
        giveShocks();
        giveSpreads();
        giveSpreadsOneByOne();
        giveRefused();
        nights();
        arrive();
        leave();
        dinnerAnswers();
        dinnerChangesNothing();
        dinnerFirstWrong();
        dinnerByTable();
        dinnerRefused();
        dinnerFaults();
        thoseGoneCountNoMore();
        check.end();
    }

    private static void giveGathers() {
        StayingGuests x = Check.made("h31;m340");
        check.due("give less than it takes", x.give(0, 0), 0);
        check.due("GATHERED", x.ofGuest(0, 4), 3);
        check.due("KNOWS", x.ofGuest(0, 5), 0);
        check.due("give just what it takes", x.give(1, 0), 1);
        check.due("GATHERED", x.ofGuest(0, 4), 4);
        check.due("KNOWS", x.ofGuest(0, 5), 1);
        check.due("who KNOW", x.many(3), 1);
        StayingGuests y = Check.made("h31;c340;b340");
        check.due("give what weighs 0", y.give(1, 0), 0);
        check.due("GATHERED", y.ofGuest(0, 4), 0);
        check.due("give half", y.give(0, 1), 0);
        check.due("GATHERED", y.ofGuest(1, 4), 1);
        StayingGuests z = Check.made("h9;m950");
        check.due("give more than it takes", z.give(0, 0), 1);
        check.due("GATHERED", z.ofGuest(0, 4), 9);
    }

    private static void giveShocks() {
        StayingGuests x = Check.made("h342;m360");
        x.give(2, 0);
        check.due("give as much as he BEARS", x.give(0, 0), 0);
        check.due("give more than he BEARS", x.give(1, 0), NONE);
        check.due("GATHERED as ahead", x.ofGuest(0, 4), 5);
        check.due("SHOCKED", x.ofGuest(0, 6), 1);
        check.due("SHOCKED does not KNOW", x.ofGuest(0, 5), 0);
        check.due("give one who is SHOCKED", x.give(2, 0), 1);
        check.due("SHOCKED for good", x.ofGuest(0, 6), 1);
        check.due("and KNOWS", x.ofGuest(0, 5), 1);
    }

    private static void giveSpreads() {
        // 1 and 3 lack 1; 3 sits elsewhere; 2 lacks 2, and so is set off by 0 and 1 together.
        StayingGuests x = Check.made("h1;m110;m110;m120;m111;m190");
        check.due("give sets off others", x.give(0, 0), 3);
        check.due("1 KNOWS", x.ofGuest(1, 5), 1);
        check.due("2 KNOWS", x.ofGuest(2, 5), 1);
        check.due("3 sits elsewhere", x.ofGuest(3, 5), 0);
        check.due("3 has GATHERED", x.ofGuest(3, 4), 0);
        check.due("4 has GATHERED by three", x.ofGuest(4, 4), 3);
        check.due("who KNOW", x.many(3), 3);
        check.due("give where all others KNOW", x.give(0, 3), 1);
        check.due("4 is not at that table", x.ofGuest(4, 4), 3);
    }

    private static void giveSpreadsOneByOne() {
        // All come to lack nothing at once: the least is next, and still stirs the others.
        StayingGuests x = Check.made("h1;m110;m110;m110;m110");
        check.due("give(0, 2)", x.give(0, 2), 4);
        check.due("the one given to", x.ofGuest(2, 4), 1);
        check.due("the least", x.ofGuest(0, 4), 1);
        check.due("the next", x.ofGuest(1, 4), 2);
        check.due("the last", x.ofGuest(3, 4), 3);
        // One who is set off later, but has a lesser number, goes ahead of one who was ready already.
        StayingGuests y = Check.made("h1;m110;m120;m110;m110");
        check.due("give(0, 3)", y.give(0, 3), 4);
        check.due("0 is first", y.ofGuest(0, 4), 1);
        check.due("1 is ready then", y.ofGuest(1, 4), 2);
        check.due("2 goes behind 1", y.ofGuest(2, 4), 3);
    }

    private static void giveRefused() {
        StayingGuests x = Check.made("h1;m110;m190");
        check.due("give(1, 0)", x.give(1, 0), UNKNOWN);
        check.due("give(-1, 0)", x.give(-1, 0), UNKNOWN);
        check.due("give(0, 2)", x.give(0, 2), UNKNOWN);
        check.due("give(0, -1)", x.give(0, -1), UNKNOWN);
        x.give(0, 0);
        check.due("give one who KNOWS", x.give(0, 0), STATE);
        x.word(0, 9);
        check.due("give one who KNOWS too much", x.give(0, 0), STATE);
        check.due("he is not SHOCKED", x.ofGuest(0, 6), 0);
        check.due("unknown SIGN ahead of STATE", x.give(1, 0), UNKNOWN);
    }

    private static void nights() {
        StayingGuests x = Check.made("h5;m560;m561;m552;m553");
        x.give(0, 0);
        x.give(0, 1);
        x.give(0, 2);
        check.due("nights(2)", x.nights(2), 6);
        check.due("NIGHT", x.many(2), 2);
        check.due("GATHERED 3", x.ofGuest(0, 4), 3);
        check.due("GATHERED at least 0", x.ofGuest(3, 4), 0);
        check.due("one who KNOWS keeps it", x.ofGuest(2, 4), 5);
        check.due("nights(30)", x.nights(30), 0);
        check.due("NIGHT", x.many(2), 32);
        check.due("nights(1)", x.nights(1), 0);
        check.due("NIGHT", x.many(2), 33);
        check.due("nights(0)", x.nights(0), OUTSIDE);
        check.due("nights(31)", x.nights(31), OUTSIDE);
        check.due("NIGHT", x.many(2), 33);
        StayingGuests none = new StayingGuests();
        check.due("nights(0) without an HOTEL", none.nights(0), OUTSIDE);
        check.due("nights(1) without an HOTEL", none.nights(1), STATE);
    }

    private static void arrive() {
        StayingGuests x = Check.made("h9;m990;m990;m990");
        x.give(0, 2);
        x.word(0, 9);
        x.leave(2);
        x.reading(0, 0, 0);
        check.due("arrive", x.arrive(2, 9, 1, 5), 2);
        int[] due = {2, 9, 1, 5, 0, 0, 0};
        for (int what = 0; what <= 6; what++) {
            check.due("arrived, " + what, x.ofGuest(2, what), due[what]);
        }
        check.due("READINGS stay", x.many(4), 1);
        check.due("arrive", x.arrive(0, 1, 9, 0), 3);
        check.due("arrive", x.arrive(1, 1, 1, 0), 4);
        check.due("kind 3", x.arrive(3, 1, 1, 0), OUTSIDE);
        check.due("kind -1", x.arrive(-1, 1, 1, 0), OUTSIDE);
        check.due("bears 0", x.arrive(0, 0, 1, 0), OUTSIDE);
        check.due("bears 10", x.arrive(0, 10, 1, 0), OUTSIDE);
        check.due("takes 0", x.arrive(0, 1, 0, 0), OUTSIDE);
        check.due("takes 10", x.arrive(0, 1, 10, 0), OUTSIDE);
        check.due("table -1", x.arrive(0, 1, 1, -1), OUTSIDE);
        check.due("table 6", x.arrive(0, 1, 1, 6), OUTSIDE);
        check.due("five", x.many(0), 5);
        check.due("arrive", x.arrive(1, 1, 1, 0), 5);
        check.due("a seventh", x.arrive(1, 1, 1, 0), FULL);
        check.due("a seventh, OUTSIDE", x.arrive(1, 1, 1, 6), OUTSIDE);
        check.due("six", x.many(0), 6);
        StayingGuests none = new StayingGuests();
        check.due("OUTSIDE ahead of STATE", none.arrive(0, 0, 1, 0), OUTSIDE);
        check.due("without an HOTEL", none.arrive(0, 1, 1, 0), STATE);
    }

    private static void leave() {
        StayingGuests x = Check.made("h12;m120;c431;b562");
        x.give(1, 1);
        x.give(1, 0);
        x.reading(0, 0, 1);
        check.due("leave(3)", x.leave(3), UNKNOWN);
        check.due("leave(-1)", x.leave(-1), UNKNOWN);
        check.due("READINGS", x.many(4), 1);
        check.due("leave(0)", x.leave(0), 2);
        check.due("READINGS", x.many(4), 0);
        int[] due = {1, 4, 3, 1, 1, 0, 0};
        for (int what = 0; what <= 6; what++) {
            check.due("who was 1, " + what, x.ofGuest(0, what), due[what]);
        }
        check.due("who was 2", x.ofGuest(1, 1), 5);
        check.due("there is no 2", x.ofGuest(2, 1), UNKNOWN);
        check.due("leave(1)", x.leave(1), 1);
        check.due("who was 1", x.ofGuest(0, 1), 4);
        x.reading(0, 0, 1);
        check.due("the only one", x.leave(0), STATE);
        check.due("READINGS stay", x.many(4), 1);
        check.due("no such one", x.leave(1), UNKNOWN);
        check.due("without an HOTEL", new StayingGuests().leave(0), UNKNOWN);
        StayingGuests y = Check.made("h4;m120;m320");
        y.give(0, 0);
        check.due("SHOCKED", y.ofGuest(0, 6), 1);
        y.leave(0);
        check.due("who comes up is not SHOCKED", y.ofGuest(0, 6), 0);
    }

    private static void dinnerAnswers() {
        StayingGuests x = Check.made("h25;m360;c481;b590");
        x.give(1, 0);
        int[] pairs = {0, 0, 1, 1, 2, 10, 1, 1, 1, 0, 2, 21, 1, 0, 2, 1};
        // 0: 2 - 2 nights; 1: 4 - 2 + 4 + 1 + 1 = 8, KNOWS; 2 sits with 1 then: 1 and 2.
        check.due("who KNOWS", Check.dinner(x, 0, pairs), 2);
        check.due("FIRST WRONG", Check.dinner(x, 1, pairs), NONE);
        check.due("who is SHOCKED", Check.dinner(x, 2, pairs), 1);
        check.due("came to KNOW", Check.dinner(x, 3, pairs), 1);
        check.due("by their TABLE", Check.dinner(x, 4, pairs), 0);
        check.due("GATHERED of 0", Check.dinner(x, 10, pairs), 0);
        check.due("GATHERED of 1", Check.dinner(x, 11, pairs), 8);
        check.due("GATHERED of 2", Check.dinner(x, 12, pairs), 3);
        check.due("GATHERED of 3", Check.dinner(x, 13, pairs), NONE);
        check.due("GATHERED of 5", Check.dinner(x, 15, pairs), NONE);
        check.due("no nights", Check.dinner(x, 11, 1, 1, 0, 10), 4);
        check.due("nine nights", Check.dinner(x, 11, 1, 1, 9, 10), 0);
        check.due("a shock in it", Check.dinner(x, 2, 1, 0, 2, 1), 1);
        x.word(0, 9);
        check.due("a new shock in it", Check.dinner(x, 2, 1, 0, 2, 1), 3);
        check.due("none of it", Check.dinner(x, 0), 0);
        Check.row(x, 2, 7, 1, 1, 7);
        check.due("in the middle of a row", x.dinner(2, 2, 1, 1, 11), 4);
        x.sheet(3, 1, 40);
        check.due("twenty pairs", x.dinner(3, 1, 0, 20, 3), 0);
    }

    private static void dinnerChangesNothing() {
        StayingGuests x = Check.made("h25;m210;m210");
        check.due("who KNOWS then", Check.dinner(x, 0, 0, 0), 3);
        check.due("who is SHOCKED then", Check.dinner(x, 2, 0, 1, 1, 25, 3, 10), 1);
        check.due("who KNOW", x.many(3), 0);
        check.due("NIGHT", x.many(2), 0);
        check.due("SHOCKED", x.ofGuest(0, 6), 0);
        check.due("GATHERED", x.ofGuest(0, 4), 0);
        check.due("TABLE", x.ofGuest(1, 3), 0);
    }

    private static void dinnerFirstWrong() {
        StayingGuests x = Check.made("h1;m110;m190");
        check.due("no such SIGN", Check.dinner(x, 1, 1, 0, 1, 1), 1);
        check.due("no such SIGN, what 0", Check.dinner(x, 0, 1, 0, 1, 1), -101);
        check.due("no such SIGN, what 15", Check.dinner(x, 15, 1, 4), -100);
        check.due("he KNOWS by it", Check.dinner(x, 1, 0, 0, 1, 0, 0, 0, 0, 0), 2);
        check.due("he KNOWS by it, what 4", Check.dinner(x, 4, 0, 0, 1, 0, 0, 0, 0, 0), -102);
        x.give(0, 0);
        check.due("he KNOWS now", Check.dinner(x, 1, 0, 0), 0);
        check.due("he KNOWS now, what 2", Check.dinner(x, 2, 0, 0), -100);
        check.due("one who KNOWS may sit elsewhere", Check.dinner(x, 1, 0, 25), NONE);
        check.due("who KNOWS then", Check.dinner(x, 0, 0, 25), 1);
        check.due("none came to KNOW in it", Check.dinner(x, 3, 0, 25), 0);
    }

    private static void dinnerByTable() {
        StayingGuests x = Check.made("h1;m110;m120;m111;m111;m120;m195");
        check.due("came to KNOW", Check.dinner(x, 3, 0, 0, 2, 0, 1, 0), 5);
        check.due("by their TABLE", Check.dinner(x, 4, 0, 0, 2, 0, 1, 0), 2);
        check.due("who KNOWS", Check.dinner(x, 0, 0, 0, 2, 0, 1, 0), 31);
        check.due("moved ahead of it", Check.dinner(x, 4, 4, 21, 2, 0), 2);
        check.due("moved behind it", Check.dinner(x, 4, 2, 0, 4, 21), 1);
        check.due("GATHERED by it", Check.dinner(x, 14, 0, 0, 1, 20), 1);
        check.due("one by one in a dinner", Check.dinner(x, 13, 4, 21, 1, 21, 2, 0), 1);
        check.due("one by one in a dinner", Check.dinner(x, 14, 4, 21, 1, 21, 2, 0), 3);
    }

    private static void dinnerRefused() {
        StayingGuests x = Check.made("h1;m110;m190");
        check.due("second 5", Check.dinner(x, 0, 0, 5), OUTSIDE);
        check.due("second -1", Check.dinner(x, 0, 0, -1), OUTSIDE);
        check.due("second 9", Check.dinner(x, 0, 0, 9), OUTSIDE);
        check.due("second 11", Check.dinner(x, 0, 0, 11), OUTSIDE);
        check.due("second 19", Check.dinner(x, 0, 0, 19), OUTSIDE);
        check.due("second 26", Check.dinner(x, 0, 0, 26), OUTSIDE);
        check.due("fault of a refused dinner", x.fault(), 0);
        check.due("ten nights", Check.dinner(x, 0, 10, 10), OUTSIDE);
        check.due("-1 nights", Check.dinner(x, 0, -1, 10), OUTSIDE);
        check.due("GUEST 2", Check.dinner(x, 0, 2, 0), UNKNOWN);
        check.due("GUEST -1", Check.dinner(x, 0, -1, 20), UNKNOWN);
        check.due("OUTSIDE ahead of UNKNOWN", Check.dinner(x, 0, 2, 5), OUTSIDE);
        check.due("pair by pair", Check.dinner(x, 0, 2, 0, 0, 5), UNKNOWN);
        check.due("pair by pair", Check.dinner(x, 0, 0, 5, 2, 0), OUTSIDE);
        check.due("refused ahead of FIRST WRONG", Check.dinner(x, 0, 0, 4, 2, 0), UNKNOWN);
        check.due("refused ahead of FIRST WRONG", Check.dinner(x, 1, 0, 4, 0, 5), OUTSIDE);
        check.due("sheet 4", x.dinner(4, 3, 0, 0, 0), UNKNOWN);
        check.due("sheet -1", x.dinner(-1, 0, 0, 0, 0), UNKNOWN);
        check.due("lane 3", x.dinner(2, 3, 0, 0, 0), OUTSIDE);
        check.due("lane -1", x.dinner(2, -1, 0, 0, 0), OUTSIDE);
        check.due("n 21", x.dinner(2, 0, 0, 21, 0), OUTSIDE);
        check.due("n -1", x.dinner(2, 0, 0, -1, 0), OUTSIDE);
        int[] others = {-1, 5, 9, 16};
        for (int what : others) {
            check.due("what " + what, x.dinner(2, 0, 0, 0, what), OUTSIDE);
        }
    }

    private static void dinnerFaults() {
        StayingGuests x = new StayingGuests();
        check.due("nothing", x.dinner(1, 2, 0, 0, 0), -11);
        check.due("fault", x.fault(), 1);
        x.sheet(1, 2, 3);
        check.due("CAST", x.dinner(1, 1, 9, 0, 0), -12);
        check.due("fault", x.fault(), 2);
        check.due("INDEX", x.dinner(1, 2, 0, 2, 0), -13);
        check.due("fault", x.fault(), 3);
        check.due("INDEX, none taken", x.dinner(1, 2, 4, 0, 0), -13);
        check.due("INDEX, i below 0", x.dinner(1, 2, -1, 0, 0), -13);
        check.due("INDEX, i least", x.dinner(1, 2, Integer.MIN_VALUE, 1, 0), -13);
        check.due("INDEX, i most", x.dinner(1, 2, Integer.MAX_VALUE, 20, 0), -13);
        check.due("without an HOTEL", x.dinner(1, 2, 3, 0, 0), STATE);
        check.due("fault", x.fault(), 0);
        Check.row(x, 1, 0, 99);
        check.due("STATE ahead of pairs", x.dinner(1, 2, 0, 1, 0), STATE);
    }

    /** Of one who has gone nothing is left: not with him who comes in his place, not in a sum, not in a set. */
    private static void thoseGoneCountNoMore() {
        StayingGuests x = Check.made("h19;m890;m891;m712");
        x.give(1, 2);
        x.give(0, 2);
        check.due("SHOCKED", x.ofGuest(2, 6), 1);
        check.due("KNOWS", x.ofGuest(2, 5), 1);
        check.due("leave(2)", x.leave(2), 2);
        check.due("who is SHOCKED", Check.dinner(x, 2), 0);
        check.due("who KNOWS", Check.dinner(x, 0), 0);
        check.due("arrive", x.arrive(1, 3, 9, 2), 2);
        int[] due = {1, 3, 9, 2, 0, 0, 0};
        for (int what = 0; what <= 6; what++) {
            check.due("arrived, " + what, x.ofGuest(2, what), due[what]);
        }
        check.due("who is SHOCKED", Check.dinner(x, 2), 0);
        x.word(0, 4);
        x.give(0, 2);
        x.leave(2);
        check.due("GATHERED together", x.nights(1), 0);
        check.due("best is of those who are there", x.best(-2), 0);
        StayingGuests y = Check.made("h9;m890;m820;m730;m640;m550;m910");
        check.due("leave(5) of six", y.leave(5), 5);
        check.due("best is of those who are there", y.best(-2), 0);
        check.due("arrive", y.arrive(2, 1, 2, 3), 5);
        check.due("leave(0) of six", y.leave(0), 5);
        check.due("who was 5", y.ofGuest(4, 0), 2);
        check.due("who was 1", y.ofGuest(0, 2), 2);
    }
}
