/** What the project's tests share: due answers counted, texts put on sheets. */
final class Check {
    static final int BYTES = 0, SHORTS = 1, INTS = 2;

    private final String name;
    private int calls;
    private int wrong;

    Check(String name) {
        this.name = name;
    }

    void due(String call, long got, long want) {
        calls++;
        if (got != want) {
            wrong++;
            System.out.println(name + ": " + call + " answered " + got + ", due is " + want);
        }
    }

    void end() {
        System.out.println(name + ": " + calls + " answers, " + wrong + " not as due");
        if (wrong != 0 || calls == 0) {
            System.exit(1);
        }
    }

    /** Puts a text on sheet 0, as bytes, and takes it as an hotel. */
    static int hotel(StayingGuests x, String text) {
        x.sheet(0, BYTES, text.length());
        for (int i = 0; i < text.length(); i++) {
            x.put(0, i, text.charAt(i));
        }
        return x.hotel(0, BYTES, 0, text.length());
    }

    static StayingGuests made(String text) {
        StayingGuests x = new StayingGuests();
        int guests = hotel(x, text);
        if (guests < 1) {
            throw new IllegalStateException(text + " was not taken: " + guests);
        }
        return x;
    }

    /** Puts numbers on a sheet, as ints. */
    static void row(StayingGuests x, int sheet, int... numbers) {
        x.sheet(sheet, INTS, numbers.length);
        for (int i = 0; i < numbers.length; i++) {
            x.put(sheet, i, numbers[i]);
        }
    }

    /** A dinner of these pairs, put on sheet 1. */
    static int dinner(StayingGuests x, int what, int... pairs) {
        row(x, 1, pairs);
        return x.dinner(1, INTS, 0, pairs.length / 2, what);
    }
}
