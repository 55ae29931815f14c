/** Block 1 and promises 1 to 7, each sentence that names a boundary. */
public final class EdgeHotelTest {
    private static final int UNKNOWN = Run.UNKNOWN, OUTSIDE = Run.OUTSIDE, STATE = Run.STATE, NONE = Run.NONE;
    private static final long LOST = Run.LOST;
    private static final int NULL = Run.NULL, CAST = Run.CAST, INDEX = Run.INDEX, SIZE = Run.SIZE;
    private static final int BYTES = Run.BYTES, SHORTS = Run.SHORTS, INTS = Run.INTS;
    private static final int STAYS = 2;
    private static final String LONGEST = "h12345;m110;c221;b332;m443;c554;b995";
    private static final String DIGITS = "123456789";
    private static final Check check = new Check("EdgeHotelTest");

    public static void main(String[] args) {
        newHasNoHotel();
        newSheetsHaveNothing();
        objectsShareNothing();
        textOfEachLength();
        textEndsTooSoon();
        textOfEachCodeAtEachPlace();
        codesAreNotCut();
        sixthSign();
        seventhGuest();
        textInTheMiddle();
        textThatIsTakenMakesAllAnew();
        textThatIsWrongChangesNothing();
        hotelOutside();
        hotelFaults();
        ofGuestWhoAndWhat();
        hintOfEach();
        wordJustInside();
        wordOutside();
        weighsWithEachKind();
        weighsUnknown();
        seatJustInside();
        seatOutside();
        seatAloneChanges();
        check.end();
    }

    // ---- promise 1

    /** "No HOTEL (no SIGNS, GUESTS)". */
    private static void newHasNoHotel() {
        Run run = new Run(check, "new");
        for (int what = 0; what <= 4; what++) {
            run.due(0, "many", what);
        }
        run.due(OUTSIDE, "many", 5).due(OUTSIDE, "many", -1);
        run.due(UNKNOWN, "ofGuest", 0, 0).due(UNKNOWN, "hint", 0).due(UNKNOWN, "word", 0, 1);
        run.due(UNKNOWN, "weighs", 0, 0).due(UNKNOWN, "seat", 0, 0).due(UNKNOWN, "give", 0, 0);
        run.due(STATE, "nights", 1).due(STATE, "arrive", 0, 1, 1, 0).due(UNKNOWN, "leave", 0);
        run.due(UNKNOWN, "softly", 0, -1).due(UNKNOWN, "just", 0, 0, 0).due(STATE, "apart", -1).due(STATE, "best", -2);
        run.due(UNKNOWN, "reading", 0, 0, 0).due(0, "back", 0).due(OUTSIDE, "back", 1).due(OUTSIDE, "back", -1);
        run.due(UNKNOWN, "bearings", 0).due(UNKNOWN, "kinds", 0).due(UNKNOWN, "hintings", 0).due(LOST, "odds", 0, 0);
        run.due(UNKNOWN, "tell", 0).due(UNKNOWN, "bow", 0).due(UNKNOWN, "as", 0, 0).due(0, "trace").fault(0);
        for (int what = 0; what <= 4; what++) {
            run.due(0, "many", what);
        }
    }

    /** "SHEETS have nothing". */
    private static void newSheetsHaveNothing() {
        for (int k = 0; k < 4; k++) {
            Run run = new Run(check, "new sheet " + k);
            run.fault(0).due(0, "lose", k).due(NULL, "put", k, 0, 0).fault(1);
            for (int lane = BYTES; lane <= INTS; lane++) {
                run.due(LOST, "cell", k, 0, lane).fault(1);
                run.due(NULL, "hotel", k, lane, 0, 0).fault(1);
                run.due(NULL, "dinner", k, lane, 0, 0, 0).fault(1);
            }
            for (int other = 0; other < 4; other++) {
                run.due(NULL, "copy", k, 0, other, 0, 0).fault(1);
            }
        }
    }

    private static void objectsShareNothing() {
        String state = new Run(check, "new").state();
        for (Scene scene : Scene.values()) {
            scene.made(check, "one object").state();
            new Run(check, "another, behind " + scene).fault(0).still(state);
        }
    }

    // ---- promise 2: the text

    /** "h, then 1 to 5 digits 1 .. 9, then 1 to 6 GUESTS, numbered from 0 on". */
    private static void textOfEachLength() {
        for (int signs = 1; signs <= 5; signs++) {
            for (int guests = 1; guests <= 6; guests++) {
                String text = LONGEST.substring(0, 1 + signs) + LONGEST.substring(6, 6 + 5 * guests);
                Run run = new Run(check, text).text(guests, text).due(guests, "many", 0).due(signs, "many", 1);
                for (int s = 0; s < 5; s++) {
                    run.due(s < signs ? s + 1 : UNKNOWN, "hint", s);
                }
                int[][] each = {{0, 1, 1, 0}, {1, 2, 2, 1}, {2, 3, 3, 2}, {0, 4, 4, 3}, {1, 5, 5, 4}, {2, 9, 9, 5}};
                for (int k = 0; k < guests; k++) {
                    run.guest(k, each[k]);
                }
                run.gathered(new int[guests]).knows(new int[guests]).shocked(new int[guests]);
                run.due(UNKNOWN, "ofGuest", guests, 0);
            }
        }
    }

    /** "How many codes there are, if it just ends too soon": every beginning of a text, the empty one too. */
    private static void textEndsTooSoon() {
        for (int n = 0; n <= LONGEST.length(); n++) {
            String text = LONGEST.substring(0, n);
            new Run(check, "a beginning").text(isWhole(text) ? guestsOf(text) : -100 - n, text);
        }
        String least = "h1;m110";
        for (int n = 0; n < least.length(); n++) {
            new Run(check, "a beginning").text(-100 - n, least.substring(0, n));
        }
        new Run(check, "whole").text(1, least);
    }

    /** "FIRST FAULT: the place of the first code with which no TEXT goes on": each code behind each beginning. */
    private static void textOfEachCodeAtEachPlace() {
        String[] texts = {LONGEST, "h1;m110", "h9;c995;b190", "h123;b555"};
        for (String text : texts) {
            for (int n = 0; n <= text.length(); n++) {
                everyCodeBehind(text.substring(0, n));
            }
        }
    }

    private static void everyCodeBehind(String start) {
        int n = start.length();
        for (int least = -128; least < 128; least += 64) {
            Run run = new Run(check, "behind " + start).row(0, BYTES, (start + "..").chars().toArray());
            for (int code = least; code < least + 64; code++) {
                boolean goesOn = code > 0 && next(start).indexOf(code) >= 0;
                String longer = start + (char) code;
                int due = !goesOn ? -100 - n : isWhole(longer) ? guestsOf(longer) : -101 - n;
                run.due(1, "put", 0, n, code).due(due, "hotel", 0, BYTES, 0, n + 1);
                if (!goesOn) {
                    // What comes behind the first fault does not matter.
                    run.due(due, "hotel", 0, BYTES, 0, n + 2);
                }
            }
        }
    }

    /** The codes with which a text goes on behind a beginning of one. */
    private static String next(String start) {
        if (start.isEmpty()) {
            return "h";
        }
        int guest = start.lastIndexOf(';');
        if (guest < 0) {
            int signs = start.length() - 1;
            return (signs < 5 ? DIGITS : "") + (signs > 0 ? ";" : "");
        }
        int of = start.length() - 1 - guest;
        return of == 0 ? "mcb" : of < 3 ? DIGITS : of == 3 ? "012345" : guestsOf(start) < 6 ? ";" : "";
    }

    private static int guestsOf(String text) {
        return (int) text.chars().filter(c -> c == ';').count();
    }

    private static boolean isWhole(String text) {
        int guest = text.lastIndexOf(';');
        return guest > 0 && text.length() - guest == 5;
    }

    /** Cells are taken as they are: only what comes to a cell is cut. */
    private static void codesAreNotCut() {
        int[] codes = "h1;m110".chars().toArray();
        for (int place = 0; place < codes.length; place++) {
            for (int more : new int[] {256, -256, 65536, 1 << 24, Run.MIN}) {
                int[] row = codes.clone();
                row[place] += more;
                new Run(check, "ints").row(2, INTS, row).due(-100 - place, "hotel", 2, INTS, 0, 7);
                boolean cutAway = (short) row[place] == codes[place];
                new Run(check, "shorts").row(2, SHORTS, row).due(cutAway ? 1 : -100 - place, "hotel", 2, SHORTS, 0, 7);
                new Run(check, "bytes").row(2, BYTES, row).due(1, "hotel", 2, BYTES, 0, 7);
            }
        }
    }

    /** "The digit of a sixth SIGN". */
    private static void sixthSign() {
        new Run(check, "four signs").text(1, "h1234;m110").due(4, "many", 1);
        new Run(check, "five signs").text(1, "h12345;m110").due(5, "many", 1);
        new Run(check, "six signs").text(-106, "h123456;m110").due(0, "many", 1);
        new Run(check, "six signs").text(-106, "h123456");
        new Run(check, "six signs").text(-106, "h1234567;m110");
        new Run(check, "no signs").text(-101, "h;m110");
    }

    /** "The ; of a seventh GUEST". */
    private static void seventhGuest() {
        String five = "h1;m110;m110;m110;m110;m110";
        new Run(check, "five guests").text(5, five);
        new Run(check, "six guests").text(6, five + ";m110");
        new Run(check, "seven guests").text(-132, five + ";m110;m110").due(0, "many", 0);
        new Run(check, "seven guests").text(-132, five + ";m110;");
        new Run(check, "seven guests").text(-132, five + ";m110;m110;m110");
        new Run(check, "no guests").text(-102, "h1");
    }

    /** "Of n cells of a SHEET from i on": neither those ahead nor those behind. */
    private static void textInTheMiddle() {
        for (int lane = BYTES; lane <= INTS; lane++) {
            for (int k = 0; k < 4; k++) {
                Run run = new Run(check, "in the middle").row(k, lane, ";h12;m345;c67".chars().toArray());
                run.due(-100, "hotel", k, lane, 0, 9).due(-103, "hotel", k, lane, 1, 3).due(1, "hotel", k, lane, 1, 8);
                run.guest(0, 0, 3, 4, 5).due(-109, "hotel", k, lane, 1, 9).due(-112, "hotel", k, lane, 1, 12);
            }
        }
        Run run = new Run(check, "at the end of 60").go("sheet", 0, BYTES, 60);
        int[] codes = "h1;m110".chars().toArray();
        for (int i = 0; i < 7; i++) {
            run.due(1, "put", 0, 53 + i, codes[i]);
        }
        run.due(1, "hotel", 0, BYTES, 53, 7).due(-106, "hotel", 0, BYTES, 53, 6).due(INDEX, "hotel", 0, BYTES, 53, 8);
        run.due(-100, "hotel", 0, BYTES, 0, 60);
    }

    /** "All have GATHERED 0, nobody KNOWS, nobody is SHOCKED, it is NIGHT 0, no READINGS." */
    private static void textThatIsTakenMakesAllAnew() {
        Run run = Scene.LIVELY.made(check, "anew");
        long trace = run.call("trace");
        run.due(4, "hotel", 0, BYTES, 0, 26).gathered(0, 0, 0, 0).knows(0, 0, 0, 0).shocked(0, 0, 0, 0);
        run.due(0, "many", 2).due(0, "many", 3).due(0, "many", 4).due(OUTSIDE, "back", 1);
        run.due(0b11_1111_1110, "bearings", 0).due(trace, "trace").due(300, "cell", 2, 2, SHORTS);
        Run again = Scene.LIVELY.made(check, "anew, words and seats and guests");
        again.go("word", 0, 7).go("seat", 0, 5).go("leave", 1).go("arrive", 2, 1, 1, 1).go("arrive", 2, 1, 1, 1);
        again.due(4, "hotel", 0, BYTES, 0, 26).due(1, "hint", 0).guest(0, 0, 3, 9, 1, 0, 0, 0);
        again.guest(1, 1, 4, 7, 2, 0, 0, 0).guest(3, 0, 2, 5, 4, 0, 0, 0).due(UNKNOWN, "ofGuest", 4, 0);
        Run fewer = Scene.CROWDED.made(check, "fewer guests");
        fewer.hotel("h3;c784").due(1, "many", 0).due(UNKNOWN, "ofGuest", 1, 0).guest(0, 1, 7, 8, 4, 0, 0, 0);
        fewer.due(1, "arrive", 0, 2, 3, 4).guest(1, 0, 2, 3, 4, 0, 0, 0);
        Run signs = Scene.LIVELY.made(check, "fewer signs").hotel("h8;m110").due(1, "many", 1).due(8, "hint", 0);
        signs.due(UNKNOWN, "hint", 1).due(UNKNOWN, "give", 1, 0).due(UNKNOWN, "reading", 1, 0, 0);
        Scene.NO_HOTEL.made(check, "the first").due(4, "hotel", 0, BYTES, 0, 26).due(4, "many", 0).fault(0);
    }

    private static void textThatIsWrongChangesNothing() {
        String[] texts = {"", "x", "h", "h777", "h7;", "h7;b", "h7;b9", "h7;b99", "h7;b996", "h7;b995;", "h7;b995;x",
            "h777777;b995", "h7;b995;b995;b995;b995;b995;b995;"};
        int[] faults = {0, 0, 1, 4, 3, 4, 5, 6, 6, 8, 8, 6, 32};
        for (int t = 0; t < texts.length; t++) {
            Run run = Scene.LIVELY.made(check, "wrong, " + texts[t]).row(0, BYTES, texts[t].chars().toArray());
            String state = run.state();
            run.due(-100 - faults[t], "hotel", 0, BYTES, 0, texts[t].length()).fault(0).still(state);
        }
    }

    // ---- promise 2: refusals and faults

    /** "UNKNOWN; OUTSIDE: lane". */
    private static void hotelOutside() {
        for (int sheet : Run.outOf(0, 3)) {
            Scene.LIVELY.idle(check, UNKNOWN, 0, "hotel", sheet, BYTES, 0, 26);
        }
        for (int lane : Run.outOf(0, 2)) {
            Scene.LIVELY.idle(check, OUTSIDE, 0, "hotel", 0, lane, 0, 26);
        }
    }

    /** "FAULTS CAST (nothing is no CAST), NULL, SIZE: n is below 0, INDEX: not all cells are there". */
    private static void hotelFaults() {
        int[] lanes = {BYTES, INTS, SHORTS};
        for (int sheet = 0; sheet < 3; sheet++) {
            for (int lane = BYTES; lane <= INTS; lane++) {
                boolean own = lane == lanes[sheet];
                Scene.LIVELY.idle(check, own ? -100 : CAST, own ? 0 : 2, "hotel", sheet, lane, 0, 0);
            }
        }
        for (int lane = BYTES; lane <= INTS; lane++) {
            Scene.LIVELY.idle(check, NULL, 1, "hotel", 3, lane, 0, 0);
        }
        Scene.LIVELY.idle(check, SIZE, 4, "hotel", 0, BYTES, 0, -1);
        Scene.LIVELY.idle(check, SIZE, 4, "hotel", 0, BYTES, 0, Run.MIN);
        Scene.LIVELY.idle(check, INDEX, 3, "hotel", 0, BYTES, 0, 27);
        Scene.LIVELY.idle(check, INDEX, 3, "hotel", 0, BYTES, 0, Run.MAX);
        Scene.LIVELY.idle(check, INDEX, 3, "hotel", 0, BYTES, -1, 26);
        Scene.LIVELY.idle(check, INDEX, 3, "hotel", 0, BYTES, -1, 27);
        Scene.LIVELY.idle(check, INDEX, 3, "hotel", 0, BYTES, Run.MIN, Run.MAX);
        Scene.LIVELY.made(check, "lost").go("lose", 0).due(NULL, "hotel", 0, BYTES, 0, 26).fault(1).due(4, "many", 0);
    }

    // ---- promises 3 to 7

    /** "0 kind .. 6 whether he is SHOCKED. UNKNOWN; OUTSIDE." */
    private static void ofGuestWhoAndWhat() {
        Run run = Scene.LIVELY.made(check, "ofGuest");
        run.guest(0, 0, 3, 9, 1, 1, 0, 0).guest(1, 1, 4, 7, 2, 2, 0, 1);
        run.guest(2, 2, 5, 8, 3, 0, 0, 0).guest(3, 0, 2, 5, 4, 5, 1, 1);
        for (int k : Run.outOf(0, 3)) {
            Scene.LIVELY.idle(check, UNKNOWN, STAYS, "ofGuest", k, 0);
        }
        for (int what : Run.outOf(0, 6)) {
            Scene.LIVELY.idle(check, OUTSIDE, STAYS, "ofGuest", 0, what);
            Scene.LIVELY.idle(check, OUTSIDE, STAYS, "ofGuest", 3, what);
        }
        Scene.CROWDED.made(check, "the sixth").due(2, "ofGuest", 5, 0).due(UNKNOWN, "ofGuest", 6, 0);
        Scene.ALONE.made(check, "the only one").due(0, "ofGuest", 0, 0).due(UNKNOWN, "ofGuest", 1, 0);
    }

    private static void hintOfEach() {
        Run run = Scene.LIVELY.made(check, "hint").due(1, "hint", 0).due(9, "hint", 1).due(3, "hint", 2);
        run.due(5, "hint", 3).due(2, "hint", 4).fault(STAYS);
        for (int s : Run.outOf(0, 4)) {
            Scene.LIVELY.idle(check, UNKNOWN, STAYS, "hint", s);
        }
        Scene.CROWDED.made(check, "the only sign").due(2, "hint", 0).due(UNKNOWN, "hint", 1);
    }

    /** "HINT of a SIGN becomes v (1 .. 9): what it was." */
    private static void wordJustInside() {
        for (int s = 0; s < 5; s++) {
            Run run = Scene.LIVELY.made(check, "word");
            int[] hints = {1, 9, 3, 5, 2};
            run.due(hints[s], "word", s, 1).due(1, "word", s, 2).due(2, "word", s, 8).due(8, "word", s, 9);
            run.due(9, "word", s, 9).due(9, "hint", s).due(9, "weighs", s, 0).fault(STAYS);
            for (int other = 0; other < 5; other++) {
                run.due(other == s ? 9 : hints[other], "hint", other);
            }
            run.gathered(1, 2, 0, 5).knows(0, 0, 0, 1).shocked(0, 1, 0, 1).due(2, "many", 4);
            run.due(9, "word", s, hints[s]).still(Scene.LIVELY.state(check));
        }
    }

    /** "UNKNOWN; OUTSIDE." */
    private static void wordOutside() {
        for (int s : Run.outOf(0, 4)) {
            Scene.LIVELY.idle(check, UNKNOWN, STAYS, "word", s, 5);
        }
        for (int v : Run.outOf(1, 9)) {
            Scene.LIVELY.idle(check, OUTSIDE, STAYS, "word", 0, v);
            Scene.LIVELY.idle(check, OUTSIDE, STAYS, "word", 4, v);
        }
    }

    /** "With a MISS its HINT; with a COLONEL 1 less; with a BROKER half of what it does with a MISS." */
    private static void weighsWithEachKind() {
        int[][] due = {{1, 2, 3, 4, 5, 6, 7, 8, 9}, {0, 1, 2, 3, 4, 5, 6, 7, 8}, {0, 1, 1, 2, 2, 3, 3, 4, 4}};
        Run run = new Run(check, "weighs").hotel("h51;m110;c110;b110");
        for (int hint = 1; hint <= 9; hint++) {
            run.go("word", 1, hint);
            for (int k = 0; k < 3; k++) {
                run.due(due[k][hint - 1], "weighs", 1, k);
            }
        }
        run.due(5, "weighs", 0, 0).due(4, "weighs", 0, 1).due(2, "weighs", 0, 2);
    }

    private static void weighsUnknown() {
        for (int s : Run.outOf(0, 4)) {
            Scene.LIVELY.idle(check, UNKNOWN, STAYS, "weighs", s, 0);
        }
        for (int k : Run.outOf(0, 3)) {
            Scene.LIVELY.idle(check, UNKNOWN, STAYS, "weighs", 0, k);
        }
        Scene.LIVELY.idle(check, 1, STAYS, "weighs", 0, 3);
        Scene.LIVELY.idle(check, 2, STAYS, "weighs", 4, 0);
    }

    /** "A GUEST sits at a TABLE (0 .. 5): where he sat." */
    private static void seatJustInside() {
        for (int k = 0; k < 4; k++) {
            Run run = Scene.LIVELY.made(check, "seat");
            run.due(k + 1, "seat", k, 0).due(0, "ofGuest", k, 3).due(0, "seat", k, 5).due(5, "ofGuest", k, 3);
            run.due(5, "seat", k, 5).due(5, "seat", k, 4).due(4, "seat", k, 1).due(1, "ofGuest", k, 3).fault(STAYS);
            run.due(1, "seat", k, k + 1).still(Scene.LIVELY.state(check));
        }
    }

    private static void seatOutside() {
        for (int k : Run.outOf(0, 3)) {
            Scene.LIVELY.idle(check, UNKNOWN, STAYS, "seat", k, 0);
        }
        for (int table : Run.outOf(0, 5)) {
            Scene.LIVELY.idle(check, OUTSIDE, STAYS, "seat", 0, table);
            Scene.LIVELY.idle(check, OUTSIDE, STAYS, "seat", 3, table);
        }
    }

    /** He who sits down with one who knows has gathered nothing by it. */
    private static void seatAloneChanges() {
        Run run = new Run(check, "seat alone").hotel("h1;m110;m121").due(1, "give", 0, 0).due(1, "seat", 1, 0);
        run.gathered(1, 0).knows(1, 0).due(0, "seat", 0, 3).gathered(1, 0).due(0, "give", 0, 1).due(1, "give", 0, 1);
        run.due(NONE, "apart", 0);
    }
}
