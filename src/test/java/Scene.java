import java.util.Arrays;
import java.util.EnumMap;
import java.util.Map;

/** Objects to which much has befallen, so that a call that should change nothing has much to change. */
enum Scene {
    /** Signs 0 to 4, guests 0 to 3: 1 is shocked, 3 is shocked and knows; sheet 3 has nothing. */
    LIVELY,
    /** Sheets as in LIVELY, no hotel. */
    NO_HOTEL,
    /** One sign, six guests, eight readings. */
    CROWDED,
    /** One guest. */
    ALONE;

    static final String LIVELY_TEXT = "h19352;m391;c472;b583;m254";

    private static final Map<Scene, String> STATES = new EnumMap<>(Scene.class);

    Run made(Check check, String title) {
        Run run = new Run(check, title);
        switch (this) {
            case LIVELY -> lively(run);
            case CROWDED -> crowded(run);
            case ALONE -> run.hotel("h52;m891").go("give", 1, 0).go("give", 0, 0).go("nights", 3).go("reading", 0, 0, 0);
            default -> run.row(0, Run.BYTES, LIVELY_TEXT.chars().toArray());
        }
        run.row(1, Run.INTS, 0, 0, 1, 3, 2, 10).row(2, Run.SHORTS, 7, -1, 300, 8, 9);
        // So that fault() is 2, and a call that ends it is seen.
        return run.due(Run.LOST, "cell", 1, 0, Run.BYTES).fault(2);
    }

    private static void lively(Run run) {
        run.hotel(LIVELY_TEXT).due(0, "give", 2, 0).due(Run.NONE, "give", 1, 1).due(0, "give", 3, 1);
        run.due(Run.NONE, "give", 1, 3).due(0, "give", 4, 3).due(0, "give", 4, 3).due(1, "give", 0, 3);
        run.due(3, "nights", 2).gathered(1, 2, 0, 5);
        run.due(0, "reading", 1, 1, 1).due(1, "reading", 2, 0, 0).due(110, "tell", 2);
    }

    private static void crowded(Run run) {
        run.hotel("h2;m911;c922;b933;m944;c955;b960").go("give", 0, 0).go("give", 0, 3).go("give", 0, 4);
        for (int r = 0; r < 8; r++) {
            run.due(r, "reading", 0, r % 6, 0);
        }
    }

    String state(Check check) {
        return STATES.computeIfAbsent(this, scene -> scene.made(check, scene + " as it is").state());
    }

    /** On a new scene: a call's answer, fault() behind it, and that nothing else is changed by it. */
    void idle(Check check, long want, int fault, String name, int... args) {
        String title = "on " + this + " " + name + Arrays.toString(args);
        made(check, title).due(want, name, args).fault(fault).still(state(check));
    }
}
