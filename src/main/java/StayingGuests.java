public final class StayingGuests {
    public static final int UNKNOWN = -1, OUTSIDE = -2, STATE = -3, FULL = -4, NONE = -9;
    public static final long LOST = Long.MIN_VALUE;

    private static final int NO_FAULT = 0, NULL = 1, CAST = 2, INDEX = 3, SIZE = 4;
    private static final int BYTES = 0, SHORTS = 1, INTS = 2;
    private static final int MISS = 0, COLONEL = 1, BROKER = 2;
    private static final int SHEETS = 4, CELLS = 60;
    private static final int MOST_SIGNS = 5, MOST_GUESTS = 6, MOST_READINGS = 8;
    private static final int LAST_TABLE = 5;
    private static final int MOST_PAIRS = 20;
    private static final int MOST_IN_ROW = 6, MOST_TOGETHER = 54;
    private static final int NIGHTS_ACT = 10, SEAT_ACT = 20;
    private static final int GATHERED_OF = 10;

    private final Sheet[] sheets = new Sheet[SHEETS];
    private final House house = new House();
    // A house in which other guests and signs are supposed, so that what is asked never touches what is.
    private final House supposed = new House();
    private final Text text = new Text();
    private final Dinner played = new Dinner();
    private final Readings readings = new Readings();
    private final SoftRows softRows = new SoftRows();
    private final Tables tables = new Tables();
    private final Staff staff = new Staff();
    private int trail;
    private int latestFault;

    public StayingGuests() {
        for (int k = 0; k < SHEETS; k++) {
            sheets[k] = new Sheet();
        }
    }

    // ---- 1 the hotel

    public int hotel(int sheet, int lane, int i, int n) {
        latestFault = NO_FAULT;
        if (!isSheet(sheet)) {
            return UNKNOWN;
        }
        if (!within(lane, BYTES, INTS)) {
            return OUTSIDE;
        }
        Sheet row = sheets[sheet];
        int found = row.faultAs(lane);
        if (found == NO_FAULT) {
            found = n < 0 ? SIZE : row.faultOfCells(i, n);
        }
        if (found != NO_FAULT) {
            return failed(found);
        }
        int wrong = text.firstFault(row, i, n);
        if (wrong != NONE) {
            return -100 - wrong;
        }
        house.become(text.draft);
        readings.count = 0;
        return house.guests;
    }

    public int ofGuest(int k, int what) {
        if (!isGuest(k)) {
            return UNKNOWN;
        }
        Guest guest = house.rooms[k];
        switch (what) {
            case 0: return guest.kind;
            case 1: return guest.bears;
            case 2: return guest.takes;
            case 3: return guest.table;
            case 4: return guest.gathered;
            case 5: return guest.knows ? 1 : 0;
            case 6: return guest.shocked ? 1 : 0;
            default: return OUTSIDE;
        }
    }

    public int hint(int s) {
        return isSign(s) ? house.hints[s] : UNKNOWN;
    }

    public int word(int s, int v) {
        if (!isSign(s)) {
            return UNKNOWN;
        }
        if (!within(v, 1, 9)) {
            return OUTSIDE;
        }
        int was = house.hints[s];
        house.hints[s] = v;
        return was;
    }

    public int weighs(int s, int k) {
        return isSign(s) && isGuest(k) ? house.weight(s, k) : UNKNOWN;
    }

    public int seat(int k, int table) {
        if (!isGuest(k)) {
            return UNKNOWN;
        }
        if (!within(table, 0, LAST_TABLE)) {
            return OUTSIDE;
        }
        int was = house.rooms[k].table;
        house.rooms[k].table = table;
        return was;
    }

    // ---- 2 what befalls

    public int give(int s, int k) {
        if (!isSign(s) || !isGuest(k)) {
            return UNKNOWN;
        }
        if (house.rooms[k].knows) {
            return STATE;
        }
        return house.offer(s, k);
    }

    public int nights(int n) {
        if (!within(n, 1, 30)) {
            return OUTSIDE;
        }
        if (!house.stands()) {
            return STATE;
        }
        house.sleep(n);
        return house.gatheredByUnknowing();
    }

    public int arrive(int kind, int bears, int takes, int table) {
        if (!within(kind, MISS, BROKER) || !within(bears, 1, 9)
                || !within(takes, 1, 9) || !within(table, 0, LAST_TABLE)) {
            return OUTSIDE;
        }
        if (!house.stands()) {
            return STATE;
        }
        if (house.guests >= MOST_GUESTS) {
            return FULL;
        }
        Guest guest = house.rooms[house.guests];
        guest.checkIn(kind);
        guest.bears = bears;
        guest.takes = takes;
        guest.table = table;
        house.guests++;
        return house.guests - 1;
    }

    public int leave(int k) {
        if (!isGuest(k)) {
            return UNKNOWN;
        }
        if (house.guests == 1) {
            return STATE;
        }
        house.checkOut(k);
        readings.count = 0;
        return house.guests;
    }

    public int dinner(int sheet, int lane, int i, int n, int what) {
        latestFault = NO_FAULT;
        if (!isSheet(sheet)) {
            return UNKNOWN;
        }
        if (!within(lane, BYTES, INTS) || !within(n, 0, MOST_PAIRS) || !isDinnerQuestion(what)) {
            return OUTSIDE;
        }
        Sheet row = sheets[sheet];
        int found = row.faultAs(lane);
        if (found == NO_FAULT) {
            found = row.faultOfCells(i, 2 * n);
        }
        if (found != NO_FAULT) {
            return failed(found);
        }
        if (!house.stands()) {
            return STATE;
        }
        int refusal = played.refusal(house.guests, row, i, n);
        if (refusal != 0) {
            return refusal;
        }
        played.play(house, row, i, n);
        return played.answer(what);
    }

    // ---- 3 how it should dawn

    public int softly(int k, int i) {
        if (!isGuest(k)) {
            return UNKNOWN;
        }
        if (!within(i, -1, 8)) {
            return OUTSIDE;
        }
        if (house.rooms[k].knows) {
            return STATE;
        }
        return i < 0 ? softRows.fewest(house, k) : softRows.signOfRow(house, k, i);
    }

    public int just(int k, int n, int much) {
        if (!isGuest(k)) {
            return UNKNOWN;
        }
        if (!within(n, 0, MOST_IN_ROW) || !within(much, 0, MOST_TOGETHER)) {
            return OUTSIDE;
        }
        return softRows.thatWeigh(house, k, n, much);
    }

    public int apart(int k) {
        if (!within(k, -1, MOST_GUESTS - 1)) {
            return OUTSIDE;
        }
        if (!house.stands()) {
            return STATE;
        }
        int fewest = tables.lay(house);
        return k < 0 ? fewest : tables.row[k];
    }

    public int best(int k) {
        if (!within(k, -2, MOST_GUESTS - 1)) {
            return OUTSIDE;
        }
        if (!house.stands()) {
            return STATE;
        }
        staff.choose(house);
        if (k == -2) {
            return staff.bestDawned;
        }
        if (k == -1) {
            return staff.bestHints;
        }
        return staff.signFor(k);
    }

    // ---- 4 what befell

    public int reading(int s, int k, int shocked) {
        if (!isSign(s) || !isGuest(k)) {
            return UNKNOWN;
        }
        if (!within(shocked, 0, 1)) {
            return OUTSIDE;
        }
        if (readings.count >= MOST_READINGS) {
            return FULL;
        }
        return readings.note(s, k, shocked == 1);
    }

    public int back(int n) {
        if (!within(n, 0, readings.count)) {
            return OUTSIDE;
        }
        readings.count -= n;
        return readings.count;
    }

    public int bearings(int k) {
        if (!isGuest(k)) {
            return UNKNOWN;
        }
        supposed.become(house);
        int set = 0;
        for (int bears = 1; bears <= 9; bears++) {
            supposed.rooms[k].bears = bears;
            set |= readings.allSo(supposed) ? 1 << bears : 0;
        }
        return set;
    }

    public int kinds(int k) {
        if (!isGuest(k)) {
            return UNKNOWN;
        }
        supposed.become(house);
        int set = 0;
        for (int kind = MISS; kind <= BROKER; kind++) {
            supposed.rooms[k].kind = kind;
            set |= readings.allSo(supposed) ? 1 << kind : 0;
        }
        return set;
    }

    public int hintings(int s) {
        if (!isSign(s)) {
            return UNKNOWN;
        }
        supposed.become(house);
        int set = 0;
        for (int hint = 1; hint <= 9; hint++) {
            supposed.hints[s] = hint;
            set |= readings.allSo(supposed) ? 1 << hint : 0;
        }
        return set;
    }

    public long odds(int k, int which) {
        if (!isGuest(k) || !within(which, 0, 1)) {
            return LOST;
        }
        int borne = 0;
        for (int s = 0; s < house.signs; s++) {
            borne += house.shocks(s, k) ? 0 : 1;
        }
        int common = commonDivisor(house.signs, borne);
        if (common == 0) {
            return LOST;
        }
        return (which == 0 ? borne : house.signs) / common;
    }

    // ---- 5 sheets, parts

    public int sheet(int k, int lane, int n) {
        latestFault = NO_FAULT;
        if (!isSheet(k)) {
            return UNKNOWN;
        }
        if (!within(lane, BYTES, INTS) || n > CELLS) {
            return OUTSIDE;
        }
        if (n < 0) {
            return failed(SIZE);
        }
        sheets[k].renew(lane, n);
        return 1;
    }

    public int lose(int k) {
        if (!isSheet(k)) {
            return UNKNOWN;
        }
        boolean had = sheets[k].has;
        sheets[k].has = false;
        return had ? 1 : 0;
    }

    public int put(int k, int i, int v) {
        latestFault = NO_FAULT;
        if (!isSheet(k)) {
            return UNKNOWN;
        }
        int found = sheets[k].faultAt(i);
        if (found != NO_FAULT) {
            return failed(found);
        }
        sheets[k].write(i, v);
        return 1;
    }

    public long cell(int k, int i, int lane) {
        latestFault = NO_FAULT;
        if (!isSheet(k) || !within(lane, BYTES, INTS)) {
            return LOST;
        }
        int found = sheets[k].faultAs(lane);
        if (found == NO_FAULT) {
            found = sheets[k].faultAt(i);
        }
        if (found != NO_FAULT) {
            latestFault = found;
            return LOST;
        }
        return sheets[k].cells[i];
    }

    public int copy(int k, int i, int other, int j, int n) {
        latestFault = NO_FAULT;
        if (!isSheet(k) || !isSheet(other)) {
            return UNKNOWN;
        }
        Sheet from = sheets[k];
        Sheet to = sheets[other];
        if (!from.has || !to.has) {
            return failed(NULL);
        }
        if (from.lane != to.lane) {
            return failed(CAST);
        }
        if (from.faultOfCells(i, n) != NO_FAULT || to.faultOfCells(j, n) != NO_FAULT) {
            return failed(INDEX);
        }
        System.arraycopy(from.cells, i, to.cells, j, n);
        return n;
    }

    public int tell(int k) {
        if (!isGuest(k)) {
            return UNKNOWN;
        }
        switch (house.rooms[k].kind) {
            case MISS: return missTells(k);
            case COLONEL: return colonelTells(k);
            default: return brokerTells(k);
        }
    }

    public int bow(int k) {
        if (!isGuest(k)) {
            return UNKNOWN;
        }
        if (house.rooms[k].kind == BROKER) {
            begin(5);
            return 70;
        }
        begin(4);
        return house.rooms[k].table;
    }

    public int as(int k, int kind) {
        latestFault = NO_FAULT;
        if (!isGuest(k)) {
            return UNKNOWN;
        }
        if (!within(kind, MISS, BROKER)) {
            return OUTSIDE;
        }
        // Each kind is numbered above all the kinds that it is, too.
        return kind <= house.rooms[k].kind ? 1 : failed(CAST);
    }

    public int trace() {
        return trail;
    }

    public int fault() {
        return latestFault;
    }

    public int many(int what) {
        switch (what) {
            case 0: return house.guests;
            case 1: return house.signs;
            case 2: return house.night;
            case 3: return Integer.bitCount(house.knowing());
            case 4: return readings.count;
            default: return OUTSIDE;
        }
    }

    // ---- what the calls share

    private static boolean within(int v, int least, int most) {
        return v >= least && v <= most;
    }

    private static boolean isSheet(int k) {
        return within(k, 0, SHEETS - 1);
    }

    private boolean isSign(int s) {
        return s >= 0 && s < house.signs;
    }

    private boolean isGuest(int k) {
        return k >= 0 && k < house.guests;
    }

    private static boolean isDinnerQuestion(int what) {
        return within(what, 0, 4) || within(what, GATHERED_OF, GATHERED_OF + MOST_GUESTS - 1);
    }

    private int failed(int found) {
        latestFault = found;
        return -10 - found;
    }

    private static int commonDivisor(int a, int b) {
        int large = a;
        int small = b;
        for (int step = 0; step < 40 && small > 0; step++) {
            int rest = large % small;
            large = small;
            small = rest;
        }
        return large;
    }

    private void begin(int body) {
        trail = 31 * trail + body;
    }

    private int missTells(int k) {
        begin(1);
        return house.rooms[k].bears;
    }

    private int colonelTells(int k) {
        begin(2);
        return missTells(k) + 100;
    }

    private int brokerTells(int k) {
        begin(3);
        int asColonel = colonelTells(k);
        return asColonel + missTells(k);
    }

    /** A row of numbers, or nothing. One row of ints serves all lanes: what comes in is cut to the lane. */
    private static final class Sheet {
        final int[] cells = new int[CELLS];
        boolean has;
        int lane;
        int length;

        void renew(int newLane, int newLength) {
            has = true;
            lane = newLane;
            length = newLength;
            for (int i = 0; i < CELLS; i++) {
                cells[i] = 0;
            }
        }

        void write(int i, int v) {
            if (lane == BYTES) {
                cells[i] = (byte) v;
            } else if (lane == SHORTS) {
                cells[i] = (short) v;
            } else {
                cells[i] = v;
            }
        }

        int faultAs(int wanted) {
            if (!has) {
                return NULL;
            }
            return lane == wanted ? NO_FAULT : CAST;
        }

        int faultAt(int i) {
            if (!has) {
                return NULL;
            }
            return i >= 0 && i < length ? NO_FAULT : INDEX;
        }

        int faultOfCells(int i, int n) {
            // length - i, as i + n could wrap around.
            return i >= 0 && i <= length && n >= 0 && n <= length - i ? NO_FAULT : INDEX;
        }
    }

    private static final class Guest {
        int kind;
        int bears;
        int takes;
        int table;
        int gathered;
        boolean knows;
        boolean shocked;

        void checkIn(int newKind) {
            kind = newKind;
            gathered = 0;
            knows = false;
            shocked = false;
        }

        void become(Guest other) {
            kind = other.kind;
            bears = other.bears;
            takes = other.takes;
            table = other.table;
            gathered = other.gathered;
            knows = other.knows;
            shocked = other.shocked;
        }
    }

    /** The signs and guests of an hotel, and what befalls them; without guests there is no hotel. */
    private static final class House {
        final int[] hints = new int[MOST_SIGNS];
        final Guest[] rooms = new Guest[MOST_GUESTS];
        int signs;
        int guests;
        int night;

        House() {
            for (int k = 0; k < MOST_GUESTS; k++) {
                rooms[k] = new Guest();
            }
        }

        boolean stands() {
            return guests > 0;
        }

        void clear() {
            signs = 0;
            guests = 0;
            night = 0;
        }

        void become(House other) {
            signs = other.signs;
            guests = other.guests;
            night = other.night;
            for (int s = 0; s < MOST_SIGNS; s++) {
                hints[s] = other.hints[s];
            }
            for (int k = 0; k < MOST_GUESTS; k++) {
                rooms[k].become(other.rooms[k]);
            }
        }

        int weight(int s, int k) {
            switch (rooms[k].kind) {
                case MISS: return hints[s];
                case COLONEL: return hints[s] - 1;
                default: return hints[s] / 2;
            }
        }

        boolean shocks(int s, int k) {
            return weight(s, k) > rooms[k].bears;
        }

        boolean isSoft(int s, int k) {
            return weight(s, k) > 0 && !shocks(s, k);
        }

        int lack(int k) {
            return rooms[k].takes - rooms[k].gathered;
        }

        int offer(int s, int k) {
            if (shocks(s, k)) {
                rooms[k].shocked = true;
                return NONE;
            }
            rooms[k].gathered += weight(s, k);
            return dawn();
        }

        /** One after another, since he who comes to know still stirs those who are about to. */
        private int dawn() {
            int dawned = 0;
            for (int k = firstReady(); k >= 0 && dawned < MOST_GUESTS; k = firstReady()) {
                rooms[k].knows = true;
                dawned++;
                stir(rooms[k].table);
            }
            return dawned;
        }

        private int firstReady() {
            for (int k = 0; k < guests; k++) {
                if (!rooms[k].knows && lack(k) <= 0) {
                    return k;
                }
            }
            return -1;
        }

        private void stir(int table) {
            for (int k = 0; k < guests; k++) {
                if (!rooms[k].knows && rooms[k].table == table) {
                    rooms[k].gathered++;
                }
            }
        }

        void sleep(int n) {
            night += n;
            for (int k = 0; k < guests; k++) {
                if (!rooms[k].knows) {
                    rooms[k].gathered = Math.max(0, rooms[k].gathered - n);
                }
            }
        }

        int gatheredByUnknowing() {
            int sum = 0;
            for (int k = 0; k < guests; k++) {
                sum += rooms[k].knows ? 0 : rooms[k].gathered;
            }
            return sum;
        }

        void checkOut(int k) {
            for (int j = k; j < guests - 1; j++) {
                rooms[j].become(rooms[j + 1]);
            }
            guests--;
        }

        int knowing() {
            int set = 0;
            for (int k = 0; k < guests; k++) {
                set |= rooms[k].knows ? 1 << k : 0;
            }
            return set;
        }

        int shockedOnes() {
            int set = 0;
            for (int k = 0; k < guests; k++) {
                set |= rooms[k].shocked ? 1 << k : 0;
            }
            return set;
        }
    }

    /** Reads the text of an hotel, code by code, into a draft: a text that turns out wrong changes nothing. */
    private static final class Text {
        private static final int HEAD = 0, SIGNS = 1, LETTER = 2, BEARS = 3, TAKES = 4, TABLE = 5, BEHIND = 6;

        final House draft = new House();
        private int part;

        int firstFault(Sheet row, int from, int n) {
            draft.clear();
            part = HEAD;
            for (int at = 0; at < n; at++) {
                if (!goesOn(row.cells[from + at])) {
                    return at;
                }
            }
            return part == BEHIND ? NONE : n;
        }

        private boolean goesOn(int code) {
            switch (part) {
                case HEAD:
                    part = SIGNS;
                    return code == 'h';
                case SIGNS: return code == ';' ? draft.signs > 0 && nextGuest() : nextSign(code);
                case LETTER: return letter(code);
                case BEHIND: return code == ';' && nextGuest();
                default: return digitOfGuest(code);
            }
        }

        private boolean nextSign(int code) {
            if (draft.signs >= MOST_SIGNS || !within(code, '1', '9')) {
                return false;
            }
            draft.hints[draft.signs] = code - '0';
            draft.signs++;
            return true;
        }

        private boolean nextGuest() {
            part = LETTER;
            return draft.guests < MOST_GUESTS;
        }

        private boolean letter(int code) {
            int kind = code == 'm' ? MISS : code == 'c' ? COLONEL : code == 'b' ? BROKER : NONE;
            if (kind == NONE) {
                return false;
            }
            draft.rooms[draft.guests].checkIn(kind);
            part = BEARS;
            return true;
        }

        private boolean digitOfGuest(int code) {
            Guest guest = draft.rooms[draft.guests];
            if (part == TABLE) {
                guest.table = code - '0';
                draft.guests++;
                part = BEHIND;
                return within(code, '0', '0' + LAST_TABLE);
            }
            if (part == BEARS) {
                guest.bears = code - '0';
                part = TAKES;
            } else {
                guest.takes = code - '0';
                part = TABLE;
            }
            return within(code, '1', '9');
        }
    }

    /** A dinner, played in a house of its own, as it changes nothing. */
    private static final class Dinner {
        private final House at = new House();
        private int firstWrong;
        private int dawned;
        private int dawnedByTable;

        int refusal(int guests, Sheet row, int from, int n) {
            for (int pair = 0; pair < n; pair++) {
                int who = row.cells[from + 2 * pair];
                int act = row.cells[from + 2 * pair + 1];
                if (act == NIGHTS_ACT) {
                    if (!within(who, 0, 9)) {
                        return OUTSIDE;
                    }
                } else if (!isSignAct(act) && !isSeatAct(act)) {
                    return OUTSIDE;
                } else if (who < 0 || who >= guests) {
                    return UNKNOWN;
                }
            }
            return 0;
        }

        void play(House now, Sheet row, int from, int n) {
            at.become(now);
            firstWrong = NONE;
            dawned = 0;
            dawnedByTable = 0;
            for (int pair = 0; pair < n && firstWrong == NONE; pair++) {
                int who = row.cells[from + 2 * pair];
                int act = row.cells[from + 2 * pair + 1];
                if (act == NIGHTS_ACT) {
                    at.sleep(who);
                } else if (isSeatAct(act)) {
                    at.rooms[who].table = act - SEAT_ACT;
                } else if (act >= at.signs || at.rooms[who].knows) {
                    firstWrong = pair;
                } else {
                    serve(act, who);
                }
            }
        }

        private void serve(int s, int k) {
            int more = at.offer(s, k);
            if (more > 0) {
                dawned += more;
                dawnedByTable += more - 1;
            }
        }

        int answer(int what) {
            if (what == 1) {
                return firstWrong;
            }
            if (firstWrong != NONE) {
                return -100 - firstWrong;
            }
            switch (what) {
                case 0: return at.knowing();
                case 2: return at.shockedOnes();
                case 3: return dawned;
                case 4: return dawnedByTable;
                default: return gatheredOf(what - GATHERED_OF);
            }
        }

        private int gatheredOf(int k) {
            return k >= 0 && k < at.guests ? at.rooms[k].gathered : NONE;
        }

        private static boolean isSignAct(int act) {
            return within(act, 0, MOST_SIGNS - 1);
        }

        private static boolean isSeatAct(int act) {
            return within(act, SEAT_ACT, SEAT_ACT + LAST_TABLE);
        }
    }

    /** Rows of signs for one guest, none of which shocks him. */
    private static final class SoftRows {
        private final int[] ways = new int[MOST_TOGETHER + 1];

        int fewest(House house, int k) {
            int heaviest = heaviest(house, k);
            return heaviest == 0 ? NONE : (house.lack(k) + heaviest - 1) / heaviest;
        }

        int signOfRow(House house, int k, int i) {
            int heaviest = heaviest(house, k);
            int left = fewest(house, k);
            if (i >= left) {
                return NONE;
            }
            int lack = house.lack(k);
            int sign = NONE;
            for (int place = 0; place <= i; place++) {
                left--;
                sign = firstOfAtLeast(house, k, lack - left * heaviest);
                if (sign == NONE) {
                    return NONE;
                }
                lack -= house.weight(sign, k);
            }
            return sign;
        }

        private static int heaviest(House house, int k) {
            int most = 0;
            for (int s = 0; s < house.signs; s++) {
                if (house.isSoft(s, k)) {
                    most = Math.max(most, house.weight(s, k));
                }
            }
            return most;
        }

        private static int firstOfAtLeast(House house, int k, int least) {
            for (int s = 0; s < house.signs; s++) {
                if (house.isSoft(s, k) && house.weight(s, k) >= least) {
                    return s;
                }
            }
            return NONE;
        }

        int thatWeigh(House house, int k, int n, int much) {
            for (int sum = 0; sum <= much; sum++) {
                ways[sum] = sum == 0 ? 1 : 0;
            }
            for (int step = 0; step < n; step++) {
                // Downwards: what a row one sign shorter weighs is always less, and so not yet written over.
                for (int sum = much; sum >= 0; sum--) {
                    ways[sum] = waysByOneMore(house, k, sum);
                }
            }
            return ways[much];
        }

        private int waysByOneMore(House house, int k, int sum) {
            int found = 0;
            for (int s = 0; s < house.signs; s++) {
                int weight = house.weight(s, k);
                if (house.isSoft(s, k) && weight <= sum) {
                    found += ways[sum - weight];
                }
            }
            return found;
        }
    }

    /** Tables at which no one's dawning sets off another's. */
    private static final class Tables {
        final int[] row = new int[MOST_GUESTS];

        int lay(House house) {
            for (int fewest = 0; fewest < MOST_GUESTS; fewest++) {
                if (sitsFrom(house, 0, fewest)) {
                    return fewest;
                }
            }
            sitsFrom(house, 0, MOST_GUESTS);
            return MOST_GUESTS;
        }

        /** Whether guests k and on find seats; the tables are tried upwards, so the first row is found first. */
        private boolean sitsFrom(House house, int k, int tables) {
            if (k >= MOST_GUESTS) {
                return true;
            }
            if (k >= house.guests || house.rooms[k].knows) {
                row[k] = NONE;
                return sitsFrom(house, k + 1, tables);
            }
            for (int table = 0; table < tables; table++) {
                row[k] = table;
                if (isFree(house, k, table) && sitsFrom(house, k + 1, tables)) {
                    return true;
                }
            }
            return false;
        }

        private boolean isFree(House house, int k, int table) {
            for (int j = 0; j < k; j++) {
                if (row[j] == table && clash(house.rooms[j], house.rooms[k])) {
                    return false;
                }
            }
            return true;
        }

        private static boolean clash(Guest a, Guest b) {
            return a.kind == b.kind || a.shocked && b.shocked;
        }
    }

    /** Which sign is best left to whom. */
    private static final class Staff {
        private static final int NO_SIGN = 9;

        private final int[] row = new int[MOST_GUESTS];
        private final int[] bestRow = new int[MOST_GUESTS];
        int bestDawned;
        int bestHints;

        void choose(House house) {
            bestDawned = -1;
            bestHints = 0;
            tryFrom(house, 0, 0, 0, 0);
        }

        int signFor(int k) {
            return bestRow[k] == NO_SIGN ? NONE : bestRow[k];
        }

        /** Rows come first ones first, so that only a better one takes the place of one found. */
        private void tryFrom(House house, int k, int used, int dawned, int hints) {
            if (k >= MOST_GUESTS) {
                keepIfBetter(dawned, hints);
                return;
            }
            if (k < house.guests && !house.rooms[k].knows) {
                for (int s = 0; s < house.signs; s++) {
                    if ((used >> s & 1) == 0 && !house.shocks(s, k)) {
                        row[k] = s;
                        int dawns = house.weight(s, k) >= house.lack(k) ? 1 : 0;
                        tryFrom(house, k + 1, used | 1 << s, dawned + dawns, hints + house.hints[s]);
                    }
                }
            }
            row[k] = NO_SIGN;
            tryFrom(house, k + 1, used, dawned, hints);
        }

        private void keepIfBetter(int dawned, int hints) {
            if (dawned < bestDawned || dawned == bestDawned && hints >= bestHints) {
                return;
            }
            bestDawned = dawned;
            bestHints = hints;
            for (int k = 0; k < MOST_GUESTS; k++) {
                bestRow[k] = row[k];
            }
        }
    }

    /** What was seen: by which sign which guest was shocked, or not. */
    private static final class Readings {
        private final int[] signs = new int[MOST_READINGS];
        private final int[] guests = new int[MOST_READINGS];
        private final boolean[] shocked = new boolean[MOST_READINGS];
        int count;

        int note(int s, int k, boolean wasShocked) {
            signs[count] = s;
            guests[count] = k;
            shocked[count] = wasShocked;
            count++;
            return count - 1;
        }

        boolean allSo(House house) {
            for (int r = 0; r < count; r++) {
                if (house.shocks(signs[r], guests[r]) != shocked[r]) {
                    return false;
                }
            }
            return true;
        }
    }
}
