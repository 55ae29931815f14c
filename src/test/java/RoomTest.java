import java.lang.management.ManagementFactory;

/** All calls of one run live in one room: an object makes its rows as it is made, and no call makes any. */
public final class RoomTest {
    /** A round is some 130 calls, and an object answers 512 as the document says. */
    private static final int OBJECTS = 700, ROUNDS = 3;
    private static final long MOST_BYTES = 200_000;
    private static final Check check = new Check("RoomTest");

    public static void main(String[] args) {
        var threads = (com.sun.management.ThreadMXBean) ManagementFactory.getThreadMXBean();
        StayingGuests[] made = new StayingGuests[OBJECTS];
        for (int i = 0; i < OBJECTS; i++) {
            made[i] = new StayingGuests();
        }
        long first = round(new StayingGuests());
        long ahead = threads.getCurrentThreadAllocatedBytes();
        long sum = 0;
        for (int i = 0; i < OBJECTS * ROUNDS; i++) {
            sum += round(made[i % OBJECTS]);
        }
        long taken = threads.getCurrentThreadAllocatedBytes() - ahead;
        check.due("bytes taken by " + OBJECTS * ROUNDS + " rounds of calls, " + taken, taken > MOST_BYTES ? 1 : 0, 0);
        check.due("the rounds are all alike", sum, OBJECTS * ROUNDS * first);
        check.end();
    }

    private static final int[] TEXT = {'h', '2', '5', '7', '1', ';', 'm', '3', '6', '0', ';', 'c', '4', '8', '1', ';', 'b',
        '5', '9', '0', ';', 'm', '2', '7', '0', ';', 'c', '6', '5', '0'};

    private static long round(StayingGuests x) {
        x.sheet(0, 0, TEXT.length);
        for (int i = 0; i < TEXT.length; i++) {
            x.put(0, i, TEXT[i]);
        }
        long sum = x.hotel(0, 0, 0, TEXT.length) + x.hotel(0, 0, 0, 29);
        sum += x.sheet(1, 0, 40) + x.copy(1, 0, 1, 1, 9) + x.cell(1, 0, 0);
        sum += x.dinner(1, 0, 0, 20, 1) + x.dinner(1, 0, 0, 2, 0) + x.lose(1);
        sum += x.give(0, 0) + x.nights(1) + x.arrive(2, 9, 9, 0) + x.leave(1) + x.word(0, 3) + x.seat(0, 1);
        for (int k = -2; k <= 5; k++) {
            sum += x.softly(0, k) + x.just(0, 6, 12) + x.apart(k) + x.best(k) + x.ofGuest(0, k) + x.many(k);
            sum += x.weighs(0, k) + x.as(k, 1) + x.hint(k);
        }
        sum += x.reading(0, 0, 1) + x.bearings(0) + x.kinds(0) + x.hintings(0) + x.odds(0, 0) + x.back(1);
        x.tell(0);
        x.bow(0);
        x.trace();
        return sum + x.fault();
    }
}
