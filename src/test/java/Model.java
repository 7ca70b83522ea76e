import java.util.ArrayList;
import java.util.List;
import java.util.regex.Matcher;
import java.util.regex.Pattern;

/**
 * What the document promises, once more and in the plainest way: it keeps nothing but the rows of what was told and
 * looks all else up in them, tries every row and every height. The program is held against it.
 */
final class Model {
    static final int UNKNOWN = -1, OUTSIDE = -2, STATE = -3, FULL = -4, NONE = -9;
    static final long LOST = Long.MIN_VALUE;

    static class Tale {
        int number, owner, height;

        int kind() {
            return 0;
        }

        boolean may(List<Integer> times, int night, int memory) {
            return times.isEmpty() || night - 1 - memory >= times.get(times.size() - 1);
        }

        int tall(int times) {
            return height;
        }

        int tell(Model m) {
            m.trace = 31 * m.trace + 1;
            return height;
        }

        int swear(Model m) {
            m.trace = 31 * m.trace + 4;
            return number;
        }
    }

    static class Grown extends Tale {
        int kind() {
            return 1;
        }

        boolean may(List<Integer> times, int night, int memory) {
            return !times.contains(night - 1);
        }

        int tall(int times) {
            return times == 0 ? height : 10 + tall(times - 1);
        }

        int tell(Model m) {
            m.trace = 31 * m.trace + 2;
            return super.tell(m) + 100;
        }
    }

    static class True extends Grown {
        int kind() {
            return 2;
        }

        boolean may(List<Integer> times, int night, int memory) {
            return times.isEmpty();
        }

        int tall(int times) {
            return height + 900;
        }

        int tell(Model m) {
            m.trace = 31 * m.trace + 3;
            int grown = super.tell(m);
            m.trace = 31 * m.trace + 1;
            return grown + height;
        }

        int swear(Model m) {
            m.trace = 31 * m.trace + 5;
            return 30;
        }
    }

    int guests, memory, trace, fault;
    List<Tale> tales = new ArrayList<>();
    List<int[]> log = new ArrayList<>();
    int[] chosen = {NONE, NONE, NONE, NONE, NONE};
    /** Of each sheet null, or a byte[], a short[] or an int[]. */
    Object[] sheets = new Object[4];

    // ---- what is told of tales and nights

    boolean isGuest(int g) {
        return 0 <= g && g < guests;
    }

    boolean isTale(int x) {
        return 0 <= x && x < tales.size();
    }

    boolean isNight(int n) {
        return 0 <= n && n < log.size();
    }

    List<Integer> times(int x, int before) {
        List<Integer> all = new ArrayList<>();
        for (int n = 0; n < before; n++) for (int t : log.get(n)) if (t == x) all.add(n);
        return all;
    }

    boolean may(int x) {
        return tales.get(x).may(times(x, log.size()), log.size(), memory);
    }

    int tall(int x, int night) {
        return x == NONE ? 0 : tales.get(x).tall(times(x, night).size());
    }

    int tall(int x) {
        return tall(x, log.size());
    }

    /** The guests in the order in which they lie: what each tells, and how tall that is. */
    List<Integer> lie(int[] told, int[] talls) {
        List<Integer> row = new ArrayList<>();
        for (int g = 0; g < guests; g++) row.add(g);
        row.sort((a, b) -> {
            if ((told[a] == NONE) != (told[b] == NONE)) return told[a] == NONE ? 1 : -1;
            return talls[a] != talls[b] ? talls[b] - talls[a] : a - b;
        });
        return row;
    }

    List<Integer> lieIn(int[] told, int night) {
        int[] talls = new int[guests];
        for (int g = 0; g < guests; g++) talls[g] = tall(told[g], night);
        return lie(told, talls);
    }

    int placeWith(int g, int x) {
        int[] told = chosen.clone();
        told[g] = x;
        return lieIn(told, log.size()).indexOf(g);
    }

    // ---- 1, 2

    int inn(int sheet, int sort, int i, int n) {
        fault = 0;
        if (sheet < 0 || sheet > 3) return UNKNOWN;
        if (sort < 0 || sort > 2) return OUTSIDE;
        int[] row = cells(sheet, sort, i, n);
        if (row == null) return -10 - fault;
        StringBuilder text = new StringBuilder();
        for (int code : row) text.append(code >= 1 && code <= 126 ? (char) code : '?');
        int place = firstFault(text.toString());
        if (place >= 0) return -100 - place;
        guests = text.charAt(1) - '0';
        tales.clear();
        log.clear();
        memory = 99;
        chosen = new int[] {NONE, NONE, NONE, NONE, NONE};
        for (String told : text.substring(3).split(";")) {
            Tale tale = told.charAt(0) == 't' ? new Tale() : told.charAt(0) == 'g' ? new Grown() : new True();
            tale.number = tales.size();
            tale.owner = told.charAt(1) - '0';
            tale.height = Integer.parseInt(told.substring(2));
            tales.add(tale);
        }
        return tales.size();
    }

    static int firstFault(String text) {
        char most = text.length() > 1 && text.charAt(1) >= '2' && text.charAt(1) <= '5' ? text.charAt(1) : '5';
        Pattern texts = Pattern.compile("i[2-5](;[tgw][0-" + (char) (most - 1) + "](0[1-9]|[1-9][0-9])){1,10}");
        if (texts.matcher(text).matches()) return -1;
        for (int n = 1; n <= text.length(); n++) {
            Matcher start = texts.matcher(text.substring(0, n));
            if (start.matches() || start.hitEnd()) continue;
            boolean isSecondOf00 = n > 5 && n % 5 == 2 && text.startsWith("00", n - 2);
            return isSecondOf00 ? n - 2 : n - 1;
        }
        return text.length();
    }

    int ofTale(int x, int what) {
        if (!isTale(x)) return UNKNOWN;
        if (what < 0 || what > 6) return OUTSIDE;
        Tale tale = tales.get(x);
        List<Integer> times = times(x, log.size());
        int last = times.isEmpty() ? NONE : times.get(times.size() - 1);
        return new int[] {tale.kind(), tale.owner, tale.height, times.size(), last, may(x) ? 1 : 0, tall(x)}[what];
    }

    int memory(int v) {
        if (v < 0 || v > 99) return OUTSIDE;
        if (guests == 0) return STATE;
        int before = memory;
        memory = v;
        return before;
    }

    int choose(int g, int x) {
        if (!isGuest(g) || (x != NONE && !isTale(x))) return UNKNOWN;
        if (x != NONE && (tales.get(x).owner != g || !may(x))) return STATE;
        int before = chosen[g];
        chosen[g] = x;
        return before;
    }

    int night() {
        if (guests == 0) return STATE;
        if (log.size() == 60) return FULL;
        int bed = lieIn(chosen, log.size()).get(0);
        log.add(chosen);
        chosen = new int[] {NONE, NONE, NONE, NONE, NONE};
        return bed;
    }

    int ofNight(int night, int g, int what) {
        if (!isNight(night) || !isGuest(g)) return UNKNOWN;
        if (what == 0) return log.get(night)[g];
        if (what == 1) return lieIn(log.get(night), night).indexOf(g);
        return what == 2 ? tall(log.get(night)[g], night) : OUTSIDE;
    }

    int undo(int k) {
        if (k < 0 || k > log.size()) return OUTSIDE;
        for (int n = 0; n < k; n++) log.remove(log.size() - 1);
        chosen = new int[] {NONE, NONE, NONE, NONE, NONE};
        return log.size();
    }

    int lay(int g, int place) {
        if (!isGuest(g) || place < 0 || place >= guests) return UNKNOWN;
        int count = 0;
        for (int n = 0; n < log.size(); n++) if (ofNight(n, g, 1) == place) count++;
        return count;
    }

    // ---- 3

    int tonight(int g, int what) {
        if (!isGuest(g)) return UNKNOWN;
        if (what < 0 || what > 2) return OUTSIDE;
        if (what == 0) return chosen[g];
        if (what == 1) return placeWith(g, chosen[g]);
        int[] told = chosen.clone();
        int[] talls = new int[guests];
        for (int o = 0; o < guests; o++) talls[o] = tall(told[o]);
        told[g] = 0;
        talls[g] = 1;
        while (lie(told, talls).get(0) != g) talls[g]++;
        return talls[g];
    }

    int reply(int g, int what, boolean own) {
        if (!isGuest(g)) return UNKNOWN;
        if (what < 0 || what > 1) return OUTSIDE;
        int best = NONE;
        long least = Long.MAX_VALUE;
        for (int x = 0; x < tales.size(); x++) {
            int owner = tales.get(x).owner;
            if (!may(x) || own != (owner == g) || (!own && chosen[owner] == x)) continue;
            long rank = placeWith(g, x) * 10_000_000L + tall(x) * 1000L + x;
            if (rank < least) {
                least = rank;
                best = x;
            }
        }
        return what == 0 || best == NONE ? best : placeWith(g, best);
    }

    int bishop(int tall) {
        if (tall < 0 || tall > 999) return OUTSIDE;
        if (guests == 0) return STATE;
        int count = 0;
        for (int g = 0; g < guests; g++) if (chosen[g] != NONE && tall(chosen[g]) >= tall) count++;
        return count;
    }

    List<Integer> options(int g) {
        List<Integer> own = new ArrayList<>();
        for (int x = 0; x < tales.size(); x++) if (tales.get(x).owner == g && may(x)) own.add(x);
        if (own.isEmpty()) own.add(NONE);
        return own;
    }

    void choices(int[] row, int g, List<int[]> rests) {
        if (g < guests) {
            for (int x : options(g)) {
                row[g] = x;
                choices(row, g + 1, rests);
            }
            return;
        }
        List<Integer> order = lieIn(row, log.size());
        for (int h = 0; h < guests; h++) {
            for (int x : options(h)) {
                int[] other = row.clone();
                other[h] = x;
                if (lieIn(other, log.size()).indexOf(h) < order.indexOf(h)) return;
            }
        }
        rests.add(row.clone());
    }

    int rests(int g) {
        if (g != -1 && !isGuest(g)) return UNKNOWN;
        if (guests == 0) return 0;
        List<int[]> all = new ArrayList<>();
        choices(new int[5], 0, all);
        return g == -1 ? all.size() : all.get(0)[g];
    }

    // ---- 4, 5

    int most;
    int[] first;

    /** Every row: what was told up to a night is a row of nights, as in the log. */
    void rows(int g, int[] numbers, int q, int won) {
        if (q == numbers.length) {
            if (won <= most) return;
            most = won;
            first = new int[q];
            for (int n = 0; n < q; n++) first[n] = log.get(log.size() - q + n)[g];
            return;
        }
        for (int x = 0; x < tales.size(); x++) {
            if (tales.get(x).owner == g && may(x) && tall(x) > numbers[q]) tellAndGoOn(g, x, numbers, q, won + 1);
        }
        tellAndGoOn(g, NONE, numbers, q, won);
    }

    void tellAndGoOn(int g, int x, int[] numbers, int q, int won) {
        int[] night = {NONE, NONE, NONE, NONE, NONE};
        night[g] = x;
        log.add(night);
        rows(g, numbers, q + 1, won);
        log.remove(log.size() - 1);
    }

    int winter(int g, int sheet, int sort, int i, int n, int q) {
        fault = 0;
        if (!isGuest(g) || sheet < 0 || sheet > 3) return UNKNOWN;
        if (sort < 0 || sort > 2) return OUTSIDE;
        int[] numbers = cells(sheet, sort, i, n);
        if (numbers == null) return -10 - fault;
        if (n < 1 || n > 6) return OUTSIDE;
        if (q < -1 || q >= n) return UNKNOWN;
        most = -1;
        rows(g, numbers, 0, 0);
        return q == -1 ? most : first[q];
    }

    int strong(int g) {
        int count = 0;
        for (Tale x : tales) {
            boolean strong = x.owner == g && may(x.number);
            for (Tale y : tales) {
                if (y.owner != g && may(y.number) && tall(y.number) >= tall(x.number)) strong = false;
            }
            if (strong) count++;
        }
        return count;
    }

    int trade(int x, int y) {
        if (!isTale(x) || !isTale(y)) return UNKNOWN;
        Tale one = tales.get(x);
        Tale other = tales.get(y);
        int g = one.owner;
        int h = other.owner;
        if (g == h) return STATE;
        int now = strong(g);
        one.owner = h;
        other.owner = g;
        int then = strong(g);
        one.owner = g;
        other.owner = h;
        return 100 + then - now;
    }

    int toldBy(int night, int g, int sheet, int sort, int i) {
        fault = 0;
        if (!isNight(night) || !isGuest(g) || sheet < 0 || sheet > 3) return UNKNOWN;
        if (sort < 0 || sort > 2) return OUTSIDE;
        int[] row = cells(sheet, sort, i, guests);
        if (row == null) return -10 - fault;
        List<Integer> order = new ArrayList<>();
        for (int o : row) if (isGuest(o) && !order.contains(o)) order.add(o);
        if (order.size() < guests) return OUTSIDE;
        int set = 0;
        for (int bit = 0; bit <= 10; bit++) {
            if (bit < 10 && (!isTale(bit) || tales.get(bit).owner != g)) continue;
            int[] told = log.get(night).clone();
            told[g] = bit < 10 ? bit : NONE;
            if (lieIn(told, night).equals(order)) set |= 1 << bit;
        }
        return set;
    }

    // ---- 6

    /** These cells, or null: then fault tells why. */
    int[] cells(int k, int sort, int i, int n) {
        Object row = sheets[k];
        if (row != null && sortOf(row) != sort) fault = 2;
        else if (row == null) fault = 1;
        else if (n < 0) fault = 4;
        else if (i < 0 || (long) i + n > lengthOf(row)) fault = 3;
        if (fault != 0) return null;
        int[] all = new int[n];
        for (int c = 0; c < n; c++) all[c] = numberAt(row, i + c);
        return all;
    }

    static int sortOf(Object row) {
        return row instanceof byte[] ? 0 : row instanceof short[] ? 1 : 2;
    }

    static int lengthOf(Object row) {
        return java.lang.reflect.Array.getLength(row);
    }

    static int numberAt(Object row, int i) {
        return ((Number) java.lang.reflect.Array.get(row, i)).intValue();
    }

    int sheet(int k, int sort, int n) {
        fault = 0;
        if (k < 0 || k > 3) return UNKNOWN;
        if (sort < 0 || sort > 2 || n > 60) return OUTSIDE;
        if (n < 0) fault = 4;
        if (fault != 0) return -14;
        sheets[k] = sort == 0 ? new byte[n] : sort == 1 ? new short[n] : new int[n];
        return 1;
    }

    int lose(int k) {
        if (k < 0 || k > 3) return UNKNOWN;
        int had = sheets[k] == null ? 0 : 1;
        sheets[k] = null;
        return had;
    }

    int put(int k, int i, int v) {
        fault = 0;
        if (k < 0 || k > 3) return UNKNOWN;
        Object row = sheets[k];
        if (row == null) fault = 1;
        else if (i < 0 || i >= lengthOf(row)) fault = 3;
        else if (row instanceof byte[] bytes) bytes[i] = (byte) v;
        else if (row instanceof short[] shorts) shorts[i] = (short) v;
        else if (row instanceof int[] ints) ints[i] = v;
        return fault == 0 ? 1 : -10 - fault;
    }

    long cell(int k, int i, int sort) {
        fault = 0;
        if (k < 0 || k > 3 || sort < 0 || sort > 2) return LOST;
        int[] one = cells(k, sort, i, 1);
        return one == null ? LOST : one[0];
    }

    int copy(int k, int i, int other, int j, int n) {
        fault = 0;
        if (k < 0 || k > 3 || other < 0 || other > 3) return UNKNOWN;
        Object from = sheets[k];
        Object to = sheets[other];
        if (from == null || to == null) fault = 1;
        else if (sortOf(from) != sortOf(to)) fault = 2;
        else if (i < 0 || j < 0 || n < 0) fault = 3;
        else if ((long) i + n > lengthOf(from) || (long) j + n > lengthOf(to)) fault = 3;
        if (fault != 0) return -10 - fault;
        int[] taken = cells(k, sortOf(from), i, n);
        for (int c = 0; c < n; c++) put(other, j + c, taken[c]);
        return n;
    }

    int tell(int x) {
        return isTale(x) ? tales.get(x).tell(this) : UNKNOWN;
    }

    int swear(int x) {
        return isTale(x) ? tales.get(x).swear(this) : UNKNOWN;
    }

    int as(int x, int kind) {
        fault = 0;
        if (!isTale(x)) return UNKNOWN;
        if (kind < 0 || kind > 2) return OUTSIDE;
        Tale tale = tales.get(x);
        boolean is = kind == 0 || (kind == 1 ? tale instanceof Grown : tale instanceof True);
        if (!is) fault = 2;
        return is ? 1 : -12;
    }

    int many(int what) {
        return what < 0 || what > 3 ? OUTSIDE : new int[] {guests, tales.size(), log.size(), memory}[what];
    }
}
