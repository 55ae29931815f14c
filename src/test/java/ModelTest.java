import java.util.Random;

/** Runs of calls, each answer against the model's. The seeds are fixed, so that every test is the same. */
public final class ModelTest {
    /** An object answers 512 calls as the document says; no step takes more than 110. */
    private static final int RUNS = 9000, CALLS = 400;
    private static final int[] EDGES = {Integer.MIN_VALUE, Integer.MIN_VALUE + 1, -10, -3, -2, -1, 0, 1, 2, 3, 4, 5, 6,
        7, 8, 9, 10, 11, 15, 16, 19, 20, 21, 25, 26, 30, 31, 54, 55, 59, 60, 61, 104, Integer.MAX_VALUE};
    private static final Check check = new Check("ModelTest");

    private final Random random;
    private final StayingGuests x = new StayingGuests();
    private final Model m = new Model();
    private int calls;

    private ModelTest(long seed) {
        random = new Random(seed);
    }

    public static void main(String[] args) {
        for (int seed = 0; seed < RUNS; seed++) {
            ModelTest run = new ModelTest(seed);
            if (seed % 16 != 0) {
                run.text();
            }
            while (run.calls < CALLS) {
                run.step();
            }
            if (run.calls > 512) {
                throw new IllegalStateException("a run of " + run.calls + " calls");
            }
        }
        check.end();
    }

    private int below(int n) {
        return random.nextInt(n);
    }

    // Mostly what can be, now and then one beyond it, seldom something far off.
    private int about(int least, int most) {
        int way = below(24);
        if (way == 0) {
            return EDGES[below(EDGES.length)];
        }
        return way == 1 ? least - 1 : way == 2 ? most + 1 : least + below(most - least + 1);
    }

    private int guest() {
        return about(0, Math.max(0, m.many(0) - 1));
    }

    private int sign() {
        return about(0, Math.max(0, m.many(1) - 1));
    }

    private void due(String call, long got, long want) {
        calls++;
        check.due(call, got, want);
    }

    private void step() {
        int way = below(100);
        if (way < 2) {
            text();
        } else if (way < 7) {
            dinner();
        } else if (way < 45) {
            befall();
        } else if (way < 60) {
            plan();
        } else if (way < 80) {
            readings();
        } else {
            sheets();
        }
    }

    private void write(int sheet, int lane, int at, int... row) {
        due("sheet", x.sheet(sheet, lane, at + row.length), m.sheet(sheet, lane, at + row.length));
        for (int i = 0; i < row.length; i++) {
            due("put", x.put(sheet, at + i, row[i]), m.put(sheet, at + i, row[i]));
        }
    }

    private void text() {
        StringBuilder text = new StringBuilder("h");
        int signs = 1 + below(5), guests = 1 + below(6);
        for (int s = 0; s < signs; s++) {
            text.append(1 + below(9));
        }
        for (int g = 0; g < guests; g++) {
            text.append(';').append("mcb".charAt(below(3))).append(1 + below(9)).append(1 + below(9)).append(below(3));
        }
        if (below(3) == 0) {
            String codes = "hmcb;0123456789x";
            text.setCharAt(below(text.length()), codes.charAt(below(codes.length())));
        } else if (below(6) == 0) {
            text.setLength(below(text.length()));
        } else if (below(6) == 0) {
            text.append(text.substring(below(text.length())));
        }
        int sheet = below(4), lane = below(3), at = below(4);
        int length = Math.min(text.length(), 60 - at);
        int[] row = new int[length];
        for (int i = 0; i < length; i++) {
            row[i] = text.charAt(i);
        }
        write(sheet, lane, at, row);
        due("hotel " + text, x.hotel(sheet, lane, at, length), m.hotel(sheet, lane, at, length));
        state();
    }

    private void state() {
        for (int k = 0; k < 6; k++) {
            look(k);
        }
        for (int what = 0; what < 5; what++) {
            due("many(" + what + ")", x.many(what), m.many(what));
        }
        due("fault()", x.fault(), m.fault());
    }

    private void look(int k) {
        for (int what = 0; what < 7; what++) {
            due("ofGuest(" + k + ", " + what + ")", x.ofGuest(k, what), m.ofGuest(k, what));
        }
    }

    private void dinner() {
        int pairs = below(8);
        int[] row = new int[2 * pairs];
        boolean tame = below(4) > 0;
        for (int p = 0; p < pairs; p++) {
            int way = below(10);
            int act = way < 7 ? below(5) : way < 8 ? 10 : 20 + below(3);
            int who = way == 7 ? below(10) : below(Math.max(1, m.many(0)));
            row[2 * p] = tame ? who : about(0, 6);
            row[2 * p + 1] = tame && act < 5 ? act % Math.max(1, m.many(1)) : tame ? act : about(0, 4);
        }
        int sheet = below(4), lane = below(3), at = below(3);
        write(sheet, lane, at, row);
        for (int what = 0; what < 16; what = what == 4 ? 10 : what + 1) {
            due("dinner, what " + what, x.dinner(sheet, lane, at, pairs, what), m.dinner(sheet, lane, at, pairs, what));
        }
        int what = about(0, 15), lane2 = about(0, 2), at2 = about(0, 9), pairs2 = about(0, 20), sheet2 = about(0, 3);
        due("dinner", x.dinner(sheet2, lane2, at2, pairs2, what), m.dinner(sheet2, lane2, at2, pairs2, what));
        due("fault()", x.fault(), m.fault());
        look(below(6));
    }

    private void befall() {
        int s = sign(), k = guest(), v;
        switch (below(12)) {
            case 0 -> due("word", x.word(s, v = about(1, 9)), m.word(s, v));
            case 1 -> due("seat", x.seat(k, v = about(0, 5)), m.seat(k, v));
            case 2 -> due("nights", x.nights(v = about(1, below(8) == 0 ? 30 : 2)), m.nights(v));
            case 3, 4 -> {
                int kind = about(0, 2), bears = about(1, 9), takes = about(1, 9), table = about(0, 2);
                due("arrive", x.arrive(kind, bears, takes, table), m.arrive(kind, bears, takes, table));
            }
            case 5 -> due("leave", x.leave(k), m.leave(k));
            case 6 -> due("weighs", x.weighs(s, k), m.weighs(s, k));
            case 7 -> due("hint", x.hint(s), m.hint(s));
            case 8 -> due("ofGuest", x.ofGuest(k, v = about(0, 6)), m.ofGuest(k, v));
            default -> due("give", x.give(s, k), m.give(s, k));
        }
        look(below(6));
        due("who KNOW", x.many(3), m.many(3));
    }

    private void plan() {
        int k = guest(), i;
        switch (below(4)) {
            case 0 -> due("softly", x.softly(k, i = below(3) == 0 ? -1 : about(-1, 8)), m.softly(k, i));
            case 1 -> {
                int n = about(0, 4), much = about(0, 20);
                due("just(" + k + ", " + n + ", " + much + ")", x.just(k, n, much), m.just(k, n, much));
            }
            case 2 -> due("apart", x.apart(i = about(-1, 5)), m.apart(i));
            default -> due("best", x.best(i = about(-2, 5)), m.best(i));
        }
    }

    private void readings() {
        int s = sign(), k = guest(), v;
        switch (below(9)) {
            case 0, 1 -> {
                // Mostly what is so, or else nothing would be left.
                int so = m.weighs(s, k) > m.ofGuest(k, 1) ? 1 : 0;
                int shocked = below(5) == 0 ? about(0, 1) : so;
                due("reading", x.reading(s, k, shocked), m.reading(s, k, shocked));
            }
            case 2 -> due("back", x.back(v = about(0, m.many(4))), m.back(v));
            case 3, 4 -> due("bearings", x.bearings(k), m.bearings(k));
            case 5 -> due("kinds", x.kinds(k), m.kinds(k));
            case 6, 7 -> due("hintings", x.hintings(s), m.hintings(s));
            default -> due("odds", x.odds(k, v = about(0, 1)), m.odds(k, v));
        }
    }

    private void sheets() {
        int a = about(0, 3), b = about(0, 3), i = about(0, 9), j = about(0, 9), n = about(0, 9), k = guest();
        int lane = about(0, 2), v = EDGES[below(EDGES.length)];
        switch (below(12)) {
            case 0 -> due("sheet", x.sheet(a, lane, n), m.sheet(a, lane, n));
            case 1 -> due("lose", x.lose(a), m.lose(a));
            case 2 -> due("put", x.put(a, i, v), m.put(a, i, v));
            case 3, 4 -> due("cell", x.cell(a, i, lane), m.cell(a, i, lane));
            case 5, 6 -> due("copy", x.copy(a, i, b, j, n), m.copy(a, i, b, j, n));
            case 7 -> due("tell", x.tell(k), m.tell(k));
            case 8 -> due("bow", x.bow(k), m.bow(k));
            case 9 -> due("as", x.as(k, v = about(0, 2)), m.as(k, v));
            case 10 -> due("hotel", x.hotel(a, lane, i, n), m.hotel(a, lane, i, n));
            default -> due("many", x.many(v), m.many(v));
        }
        due("fault()", x.fault(), m.fault());
        due("trace()", x.trace(), m.trace());
    }
}
