import java.lang.reflect.InvocationTargetException;
import java.lang.reflect.Method;
import java.util.Arrays;
import java.util.Map;
import java.util.TreeMap;

/** A run of calls on one new object, told by their names, each with the answer that is due. */
final class Run {
    static final int UNKNOWN = -1, OUTSIDE = -2, STATE = -3, FULL = -4, NONE = -9;
    static final long LOST = Long.MIN_VALUE;
    static final int NULL = -11, CAST = -12, INDEX = -13, SIZE = -14;
    static final int BYTES = 0, SHORTS = 1, INTS = 2;
    static final int MIN = Integer.MIN_VALUE, MAX = Integer.MAX_VALUE;

    /** What a later call answers is free, so no test may ask for more. */
    private static final int MOST_CALLS = 512;
    private static final Map<String, Method> FACE = face();

    private final Check check;
    private final String title;
    private final StayingGuests x = new StayingGuests();
    private int calls;

    Run(Check check, String title) {
        this.check = check;
        this.title = title;
    }

    private static Map<String, Method> face() {
        Map<String, Method> face = new TreeMap<>();
        for (Method method : StayingGuests.class.getDeclaredMethods()) {
            face.put(method.getName(), method);
        }
        return face;
    }

    long call(String name, int... args) {
        calls++;
        if (calls > MOST_CALLS) {
            throw new IllegalStateException(title + ": more than " + MOST_CALLS + " calls");
        }
        Object[] boxed = Arrays.stream(args).boxed().toArray();
        try {
            return ((Number) FACE.get(name).invoke(x, boxed)).longValue();
        } catch (InvocationTargetException e) {
            throw new IllegalStateException(told(name, args) + " threw", e.getCause());
        } catch (IllegalAccessException e) {
            throw new IllegalStateException(told(name, args), e);
        }
    }

    private String told(String name, int... args) {
        String list = Arrays.toString(args);
        return title + ": " + name + "(" + list.substring(1, list.length() - 1) + ")";
    }

    /** A call whose answer is due. */
    Run due(long want, String name, int... args) {
        check.due(told(name, args), call(name, args), want);
        return this;
    }

    /** A call whose answer is looked at elsewhere. */
    Run go(String name, int... args) {
        call(name, args);
        return this;
    }

    /** Puts numbers on a sheet. */
    Run row(int sheet, int lane, int... numbers) {
        due(1, "sheet", sheet, lane, numbers.length);
        for (int i = 0; i < numbers.length; i++) {
            due(1, "put", sheet, i, numbers[i]);
        }
        return this;
    }

    /** Puts a text on sheet 0, as bytes, and asks for the hotel by it. */
    Run text(long want, String text) {
        row(0, BYTES, text.chars().toArray());
        check.due(title + ": hotel " + text, call("hotel", 0, BYTES, 0, text.length()), want);
        return this;
    }

    /** An hotel by a text that is right. */
    Run hotel(String text) {
        return text(text.chars().filter(c -> c == ';').count(), text);
    }

    /** A dinner of these pairs, put on sheet 1 as ints. */
    Run dinner(long want, int what, int... pairs) {
        row(1, INTS, pairs);
        check.due(title + ": dinner " + Arrays.toString(pairs) + ", what " + what,
            call("dinner", 1, INTS, 0, pairs.length / 2, what), want);
        return this;
    }

    /** What each has gathered, from guest 0 on. */
    Run gathered(int... due) {
        return ofAll(4, due);
    }

    /** Who knows, from guest 0 on. */
    Run knows(int... due) {
        return ofAll(5, due);
    }

    /** Who is shocked, from guest 0 on. */
    Run shocked(int... due) {
        return ofAll(6, due);
    }

    private Run ofAll(int what, int... due) {
        for (int k = 0; k < due.length; k++) {
            due(due[k], "ofGuest", k, what);
        }
        return this;
    }

    /** Kind, bears, takes, table, gathered, knows, shocked of one guest. */
    Run guest(int k, int... due) {
        for (int what = 0; what < due.length; what++) {
            due(due[what], "ofGuest", k, what);
        }
        return this;
    }

    Run fault(int due) {
        return due(due, "fault");
    }

    /** All that can be asked without changing anything, but fault(), which asking changes. */
    String state() {
        StringBuilder all = new StringBuilder("trace " + call("trace") + " many");
        for (int what = 0; what <= 4; what++) {
            all.append(' ').append(call("many", what));
        }
        for (int s = 0; s < 5; s++) {
            all.append("\nsign ").append(s).append(": ").append(call("hint", s)).append(' ').append(call("hintings", s));
        }
        for (int k = 0; k < 6; k++) {
            all.append("\nguest ").append(k).append(':');
            for (int what = 0; what <= 6; what++) {
                all.append(' ').append(call("ofGuest", k, what));
            }
            all.append(' ').append(call("bearings", k)).append(' ').append(call("kinds", k));
        }
        for (int k = 0; k < 4; k++) {
            all.append("\nsheet ").append(k).append(':').append(sheetState(k));
        }
        return all.toString();
    }

    private String sheetState(int k) {
        StringBuilder all = new StringBuilder();
        for (int lane = BYTES; lane <= INTS; lane++) {
            long cell = call("cell", k, 0, lane);
            for (int i = 1; cell != LOST; i++) {
                all.append(' ').append(cell);
                cell = call("cell", k, i, lane);
            }
            // 1: it has nothing; 2: it is of another lane; 3: this is its lane, and its cells are at an end.
            all.append(" fault ").append(call("fault"));
        }
        return all.toString();
    }

    /** Whether all is as it was. */
    Run still(String state) {
        String now = state();
        if (!now.equals(state)) {
            System.out.println("was: " + state + "\nis: " + now);
        }
        check.due(title + ": changes", now.equals(state) ? 0 : 1, 0);
        return this;
    }

    /** Numbers that are not least .. most: the nearest, and the farthest. */
    static int[] outOf(int least, int most) {
        return new int[] {least - 1, most + 1, MIN, MAX};
    }
}
