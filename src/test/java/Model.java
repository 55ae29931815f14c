import java.lang.reflect.Array;
import java.util.ArrayList;
import java.util.List;
import java.util.regex.Matcher;
import java.util.regex.Pattern;

/**
 * The document once more, written another way: whatever can be tried out is tried out, sheets are arrays of
 * their lanes, faults are what the machine throws, kinds are classes.
 */
final class Model {
    private static final int UNKNOWN = -1, OUTSIDE = -2, STATE = -3, FULL = -4, NONE = -9;
    private static final long LOST = Long.MIN_VALUE;
    private static final Pattern TEXT = Pattern.compile("h[1-9]{1,5}(;[mcb][1-9][1-9][0-5]){1,6}");

    interface Bowed {
        Miss self();

        default int bowed(Model m) {
            m.leaves(4);
            return self().table;
        }
    }

    static class Miss implements Bowed {
        int bears, takes, table, gathered;
        boolean knows, shocked;

        @Override public Miss self() {
            return this;
        }

        int told(Model m) {
            return missTold(m);
        }

        final int missTold(Model m) {
            m.leaves(1);
            return bears;
        }

        int weight(int hint) {
            return hint;
        }

        final Miss like(Miss o) {
            bears = o.bears;
            takes = o.takes;
            table = o.table;
            gathered = o.gathered;
            knows = o.knows;
            shocked = o.shocked;
            return this;
        }
    }

    static class Colonel extends Miss {
        @Override int told(Model m) {
            m.leaves(2);
            return super.missTold(m) + 100;
        }

        @Override int weight(int hint) {
            return super.weight(hint) - 1;
        }
    }

    static class Broker extends Colonel {
        @Override int told(Model m) {
            m.leaves(3);
            int colonel = super.told(m);
            return colonel + missTold(m);
        }

        @Override int weight(int hint) {
            return hint / 2;
        }

        @Override public int bowed(Model m) {
            m.leaves(5);
            return 70;
        }
    }

    private record Reading(int sign, int guest, boolean shocked) { }

    private final Object[] sheets = new Object[4];
    private List<Integer> hints = new ArrayList<>();
    private List<Miss> guests = new ArrayList<>();
    private final List<Reading> readings = new ArrayList<>();
    private int night, trace, fault;

    private void leaves(int number) {
        trace = 31 * trace + number;
    }

    private static Miss ofKind(int kind) {
        return kind == 0 ? new Miss() : kind == 1 ? new Colonel() : new Broker();
    }

    private static int kindOf(Miss g) {
        return g instanceof Broker ? 2 : g instanceof Colonel ? 1 : 0;
    }

    private boolean sign(int s) {
        return s >= 0 && s < hints.size();
    }

    private boolean guest(int k) {
        return k >= 0 && k < guests.size();
    }

    private static boolean sheetNumber(int k) {
        return k >= 0 && k < 4;
    }

    private int weight(int s, Miss g) {
        return g.weight(hints.get(s));
    }

    // ---- faults: what the machine throws

    private int fails(RuntimeException e) {
        fault = e instanceof NullPointerException ? 1 : e instanceof ClassCastException ? 2
            : e instanceof IndexOutOfBoundsException ? 3 : e instanceof NegativeArraySizeException ? 4 : 99;
        return -10 - fault;
    }

    private Object taken(int k, int lane) {
        Object row = sheets[k];
        return lane == 0 ? (byte[]) row : lane == 1 ? (short[]) row : (int[]) row;
    }

    private int[] cells(Object row, int i, int n) {
        int length = Array.getLength(row);
        // Only so long a row as could be: a longer one has no room, but its cells are not there anyway.
        int[] out = new int[Math.min(n, 1000)];
        if (i < 0 || i > length) {
            throw new IndexOutOfBoundsException();
        }
        for (int j = 0; j < n; j++) {
            out[j] = Array.getInt(row, i + j);
        }
        return out;
    }

    // ---- 1 the hotel

    int hotel(int sheet, int lane, int i, int n) {
        fault = 0;
        if (!sheetNumber(sheet)) return UNKNOWN;
        if (lane < 0 || lane > 2) return OUTSIDE;
        int[] codes;
        try {
            codes = cells(taken(sheet, lane), i, n);
        } catch (RuntimeException e) {
            return fails(e);
        }
        StringBuilder text = new StringBuilder();
        for (int p = 0; p < codes.length; p++) {
            text.append(codes[p] >= 0 && codes[p] < 65536 ? (char) codes[p] : '?');
            Matcher m = TEXT.matcher(text);
            if (!m.matches() && !m.hitEnd()) return -100 - p;
        }
        if (!TEXT.matcher(text).matches()) return -100 - text.length();
        String[] parts = text.substring(1).split(";");
        hints = new ArrayList<>();
        for (char c : parts[0].toCharArray()) hints.add(c - '0');
        guests = new ArrayList<>();
        for (int g = 1; g < parts.length; g++) {
            Miss guest = ofKind("mcb".indexOf(parts[g].charAt(0)));
            guest.bears = parts[g].charAt(1) - '0';
            guest.takes = parts[g].charAt(2) - '0';
            guest.table = parts[g].charAt(3) - '0';
            guests.add(guest);
        }
        night = 0;
        readings.clear();
        return guests.size();
    }

    int ofGuest(int k, int what) {
        if (!guest(k)) return UNKNOWN;
        if (what < 0 || what > 6) return OUTSIDE;
        Miss g = guests.get(k);
        return new int[] {kindOf(g), g.bears, g.takes, g.table, g.gathered, g.knows ? 1 : 0, g.shocked ? 1 : 0}[what];
    }

    int hint(int s) {
        return sign(s) ? hints.get(s) : UNKNOWN;
    }

    int word(int s, int v) {
        if (!sign(s)) return UNKNOWN;
        return v < 1 || v > 9 ? OUTSIDE : hints.set(s, v);
    }

    int weighs(int s, int k) {
        return sign(s) && guest(k) ? weight(s, guests.get(k)) : UNKNOWN;
    }

    int seat(int k, int table) {
        if (!guest(k)) return UNKNOWN;
        if (table < 0 || table > 5) return OUTSIDE;
        int was = guests.get(k).table;
        guests.get(k).table = table;
        return was;
    }

    // ---- 2 what befalls

    int give(int s, int k) {
        if (!sign(s) || !guest(k)) return UNKNOWN;
        if (guests.get(k).knows) return STATE;
        return given(guests, s, guests.get(k));
    }

    private int given(List<Miss> all, int s, Miss g) {
        if (weight(s, g) > g.bears) {
            g.shocked = true;
            return NONE;
        }
        g.gathered += weight(s, g);
        return g.gathered >= g.takes ? comesToKnow(all, g) : 0;
    }

    private static int comesToKnow(List<Miss> all, Miss g) {
        g.knows = true;
        for (Miss o : all) {
            if (!o.knows && o.table == g.table) o.gathered++;
        }
        for (Miss o : all) {
            if (!o.knows && o.gathered >= o.takes) return 1 + comesToKnow(all, o);
        }
        return 1;
    }

    private static void oneNight(List<Miss> all) {
        for (Miss g : all) {
            if (!g.knows && g.gathered > 0) g.gathered--;
        }
    }

    int nights(int n) {
        if (n < 1 || n > 30) return OUTSIDE;
        if (guests.isEmpty()) return STATE;
        for (int i = 0; i < n; i++) {
            oneNight(guests);
            night++;
        }
        return guests.stream().filter(g -> !g.knows).mapToInt(g -> g.gathered).sum();
    }

    int arrive(int kind, int bears, int takes, int table) {
        if (kind < 0 || kind > 2 || bears < 1 || bears > 9 || takes < 1 || takes > 9 || table < 0 || table > 5) {
            return OUTSIDE;
        }
        if (guests.isEmpty()) return STATE;
        if (guests.size() == 6) return FULL;
        Miss g = ofKind(kind);
        g.bears = bears;
        g.takes = takes;
        g.table = table;
        guests.add(g);
        return guests.indexOf(g);
    }

    int leave(int k) {
        if (!guest(k)) return UNKNOWN;
        if (guests.size() == 1) return STATE;
        guests.remove(k);
        readings.clear();
        return guests.size();
    }

    int dinner(int sheet, int lane, int i, int n, int what) {
        fault = 0;
        if (!sheetNumber(sheet)) return UNKNOWN;
        if (lane < 0 || lane > 2 || n < 0 || n > 20) return OUTSIDE;
        if (!(what >= 0 && what <= 4 || what >= 10 && what <= 15)) return OUTSIDE;
        int[] row;
        try {
            row = cells(taken(sheet, lane), i, 2 * n);
        } catch (RuntimeException e) {
            return fails(e);
        }
        if (guests.isEmpty()) return STATE;
        for (int p = 0; p < n; p++) {
            int who = row[2 * p], act = row[2 * p + 1];
            boolean sits = act >= 20 && act <= 25;
            if (!sits && act != 10 && (act < 0 || act > 4)) return OUTSIDE;
            if (act == 10 && (who < 0 || who > 9)) return OUTSIDE;
            if (act != 10 && !guest(who)) return UNKNOWN;
        }
        return dine(row, n, what);
    }

    private int dine(int[] row, int n, int what) {
        List<Miss> then = new ArrayList<>();
        for (Miss g : guests) then.add(ofKind(kindOf(g)).like(g));
        List<Miss> byHint = new ArrayList<>();
        for (int p = 0; p < n; p++) {
            int who = row[2 * p], act = row[2 * p + 1];
            if (act == 10) {
                for (int j = 0; j < who; j++) oneNight(then);
            } else if (act >= 20) {
                then.get(who).table = act - 20;
            } else if (!sign(act) || then.get(who).knows) {
                return what == 1 ? p : -100 - p;
            } else if (given(then, act, then.get(who)) > 0) {
                byHint.add(then.get(who));
            }
        }
        int knows = 0, shocked = 0, came = 0, byTable = 0;
        for (int k = 0; k < then.size(); k++) {
            Miss g = then.get(k);
            if (g.knows) knows += 1 << k;
            if (g.shocked) shocked += 1 << k;
            if (g.knows && !guests.get(k).knows) {
                came++;
                if (!byHint.contains(g)) byTable++;
            }
        }
        if (what < 10) return new int[] {knows, NONE, shocked, came, byTable}[what];
        return what - 10 < then.size() ? then.get(what - 10).gathered : NONE;
    }

    // ---- 3 how it should dawn

    private List<Integer> softSigns(Miss g) {
        List<Integer> soft = new ArrayList<>();
        for (int s = 0; s < hints.size(); s++) {
            if (weight(s, g) > 0 && weight(s, g) <= g.bears) soft.add(s);
        }
        return soft;
    }

    int softly(int k, int i) {
        if (!guest(k)) return UNKNOWN;
        if (i < -1 || i > 8) return OUTSIDE;
        Miss g = guests.get(k);
        if (g.knows) return STATE;
        List<Integer> soft = softSigns(g);
        if (soft.isEmpty()) return NONE;
        for (int n = 1;; n++) {
            int[] row = new int[n];
            if (firstRow(g, soft, row, 0, 0)) {
                return i < 0 ? n : i < n ? row[i] : NONE;
            }
        }
    }

    private boolean firstRow(Miss g, List<Integer> soft, int[] row, int at, int sum) {
        if (at == row.length) return g.gathered + sum >= g.takes;
        for (int s : soft) {
            row[at] = s;
            if (firstRow(g, soft, row, at + 1, sum + weight(s, g))) return true;
        }
        return false;
    }

    int just(int k, int n, int much) {
        if (!guest(k)) return UNKNOWN;
        if (n < 0 || n > 6 || much < 0 || much > 54) return OUTSIDE;
        return rowsOf(guests.get(k), softSigns(guests.get(k)), n, much);
    }

    private int rowsOf(Miss g, List<Integer> soft, int n, int much) {
        if (n == 0) return much == 0 ? 1 : 0;
        int found = 0;
        for (int s : soft) found += rowsOf(g, soft, n - 1, much - weight(s, g));
        return found;
    }

    int apart(int k) {
        if (k < -1 || k > 5) return OUTSIDE;
        if (guests.isEmpty()) return STATE;
        int n = guests.size();
        int[] found = null;
        int fewest = 99;
        for (int code = 0; code < (int) Math.pow(6, n); code++) {
            int[] row = new int[n];
            int used = 0, rest = code;
            for (int j = n - 1; j >= 0; j--) {
                row[j] = rest % 6;
                rest /= 6;
                used |= guests.get(j).knows ? 0 : 1 << row[j];
            }
            boolean gapless = (used & used + 1) == 0;
            if (gapless && Integer.bitCount(used) < fewest && sitsWell(row)) {
                found = row;
                fewest = Integer.bitCount(used);
            }
        }
        if (k < 0) return fewest;
        return k < n && !guests.get(k).knows && found != null ? found[k] : NONE;
    }

    private boolean sitsWell(int[] row) {
        for (int a = 0; a < row.length; a++) {
            for (int b = 0; b < row.length; b++) {
                Miss one = guests.get(a), two = guests.get(b);
                boolean together = a != b && row[a] == row[b] && !one.knows && !two.knows;
                if (together && (one.getClass() == two.getClass() || one.shocked && two.shocked)) return false;
            }
        }
        return true;
    }

    int best(int k) {
        if (k < -2 || k > 5) return OUTSIDE;
        if (guests.isEmpty()) return STATE;
        int[] found = null;
        int most = -1, least = 0, n = guests.size();
        for (int code = 0; code < (int) Math.pow(6, n); code++) {
            int[] row = new int[n];
            int rest = code;
            for (int j = n - 1; j >= 0; j--) {
                row[j] = rest % 6 == 5 ? 9 : rest % 6;
                rest /= 6;
            }
            int[] worth = worth(row);
            if (worth != null && (worth[0] > most || worth[0] == most && worth[1] < least)) {
                found = row;
                most = worth[0];
                least = worth[1];
            }
        }
        if (k < 0) return k == -2 ? most : least;
        return found != null && k < n && found[k] != 9 ? found[k] : NONE;
    }

    /** How many come to know, and the hints; null: it can't be. */
    private int[] worth(int[] row) {
        int used = 0, know = 0, sum = 0;
        for (int j = 0; j < row.length; j++) {
            if (row[j] == 9) continue;
            Miss g = guests.get(j);
            if (!sign(row[j]) || (used & 1 << row[j]) != 0 || g.knows || weight(row[j], g) > g.bears) return null;
            used |= 1 << row[j];
            sum += hints.get(row[j]);
            know += g.gathered + weight(row[j], g) >= g.takes ? 1 : 0;
        }
        return new int[] {know, sum};
    }

    // ---- 4 what befell

    int reading(int s, int k, int shocked) {
        if (!sign(s) || !guest(k)) return UNKNOWN;
        if (shocked != 0 && shocked != 1) return OUTSIDE;
        if (readings.size() == 8) return FULL;
        readings.add(new Reading(s, k, shocked == 1));
        return readings.size() - 1;
    }

    int back(int n) {
        if (n < 0 || n > readings.size()) return OUTSIDE;
        for (int i = 0; i < n; i++) readings.remove(readings.size() - 1);
        return readings.size();
    }

    private boolean allSo() {
        return readings.stream().allMatch(r -> {
            Miss g = guests.get(r.guest());
            return weight(r.sign(), g) > g.bears == r.shocked();
        });
    }

    int bearings(int k) {
        if (!guest(k)) return UNKNOWN;
        int was = guests.get(k).bears, set = 0;
        for (int b = 1; b <= 9; b++) {
            guests.get(k).bears = b;
            if (allSo()) set += 1 << b;
        }
        guests.get(k).bears = was;
        return set;
    }

    int kinds(int k) {
        if (!guest(k)) return UNKNOWN;
        Miss was = guests.get(k);
        int set = 0;
        for (int kind = 0; kind <= 2; kind++) {
            guests.set(k, ofKind(kind).like(was));
            if (allSo()) set += 1 << kind;
        }
        guests.set(k, was);
        return set;
    }

    int hintings(int s) {
        if (!sign(s)) return UNKNOWN;
        int was = hints.get(s), set = 0;
        for (int h = 1; h <= 9; h++) {
            hints.set(s, h);
            if (allSo()) set += 1 << h;
        }
        hints.set(s, was);
        return set;
    }

    long odds(int k, int which) {
        if (!guest(k) || which < 0 || which > 1) return LOST;
        int upper = 0, lower = hints.size();
        for (int s = 0; s < hints.size(); s++) {
            if (weight(s, guests.get(k)) <= guests.get(k).bears) upper++;
        }
        for (int d = lower; d > 1; d--) {
            if (upper % d == 0 && lower % d == 0) {
                upper /= d;
                lower /= d;
            }
        }
        return which == 0 ? upper : lower;
    }

    // ---- 5 sheets, parts

    int sheet(int k, int lane, int n) {
        fault = 0;
        if (!sheetNumber(k)) return UNKNOWN;
        if (lane < 0 || lane > 2 || n > 60) return OUTSIDE;
        try {
            sheets[k] = lane == 0 ? new byte[n] : lane == 1 ? new short[n] : new int[n];
        } catch (RuntimeException e) {
            return fails(e);
        }
        return 1;
    }

    int lose(int k) {
        if (!sheetNumber(k)) return UNKNOWN;
        int had = sheets[k] == null ? 0 : 1;
        sheets[k] = null;
        return had;
    }

    int put(int k, int i, int v) {
        fault = 0;
        if (!sheetNumber(k)) return UNKNOWN;
        try {
            if (sheets[k] instanceof byte[] b) {
                b[i] = (byte) v;
            } else if (sheets[k] instanceof short[] s) {
                s[i] = (short) v;
            } else {
                ((int[]) sheets[k])[i] = v;
            }
        } catch (RuntimeException e) {
            return fails(e);
        }
        return 1;
    }

    long cell(int k, int i, int lane) {
        fault = 0;
        if (!sheetNumber(k) || lane < 0 || lane > 2) return LOST;
        try {
            return lane == 0 ? ((byte[]) sheets[k])[i] : lane == 1 ? ((short[]) sheets[k])[i] : ((int[]) sheets[k])[i];
        } catch (RuntimeException e) {
            fails(e);
            return LOST;
        }
    }

    int copy(int k, int i, int other, int j, int n) {
        fault = 0;
        if (!sheetNumber(k) || !sheetNumber(other)) return UNKNOWN;
        try {
            System.arraycopy(sheets[k], i, sheets[other], j, n);
        } catch (ArrayStoreException e) {
            return fails(new ClassCastException());
        } catch (RuntimeException e) {
            return fails(e);
        }
        return n;
    }

    int tell(int k) {
        return guest(k) ? guests.get(k).told(this) : UNKNOWN;
    }

    int bow(int k) {
        return guest(k) ? guests.get(k).bowed(this) : UNKNOWN;
    }

    int as(int k, int kind) {
        fault = 0;
        if (!guest(k)) return UNKNOWN;
        if (kind < 0 || kind > 2) return OUTSIDE;
        try {
            (kind == 0 ? Miss.class : kind == 1 ? Colonel.class : Broker.class).cast(guests.get(k));
        } catch (RuntimeException e) {
            return fails(e);
        }
        return 1;
    }

    int trace() {
        return trace;
    }

    int fault() {
        return fault;
    }

    int many(int what) {
        if (what < 0 || what > 4) return OUTSIDE;
        int know = (int) guests.stream().filter(g -> g.knows).count();
        return new int[] {guests.size(), hints.size(), night, know, readings.size()}[what];
    }
}
