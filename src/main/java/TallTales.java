import java.util.Arrays;

/** An inn in a pass, its guests and their tales: what ../shared/DOC.md promises. */
public final class TallTales {
    public static final int UNKNOWN = -1, OUTSIDE = -2, STATE = -3, FULL = -4, NONE = -9;
    public static final long LOST = Long.MIN_VALUE;

    private static final int NULL = 1, CAST = 2, INDEX = 3, SIZE = 4;
    private static final int PLAIN = 0, GROWN = 1, TRUE = 2;
    private static final int BYTES = 0, SHORTS = 1, INTS = 2;
    private static final int MOST_GUESTS = 5, MOST_TALES = 10, MOST_NIGHTS = 60, LONGEST_WINTER = 6;
    private static final int SHEETS = 4, MOST_CELLS = 60;
    private static final int LONGEST_MEMORY = 99, TALLEST_BISHOP = 999, SWORN_TRUE = 30;
    private static final int WHOLE = -1;

    private final Sheets sheets;
    private final Text text;
    private final House house;
    private final Talls talls;
    private final Rests rests;
    private final Winter winter;
    private final int[] lying;
    private int trace;
    private int fault;

    public TallTales() {
        sheets = new Sheets();
        text = new Text();
        house = new House();
        talls = new Talls();
        rests = new Rests(house, talls);
        winter = new Winter(house);
        lying = new int[MOST_GUESTS];
    }

    // ---- 1 the inn

    public int inn(int sheet, int sort, int i, int n) {
        fault = 0;
        if (!isSheet(sheet)) return UNKNOWN;
        if (!isSort(sort)) return OUTSIDE;
        int found = sheets.faultOf(sheet, sort, i, n);
        if (found != 0) return faulty(found);
        text.length = n;
        sheets.take(sheet, i, n, text.codes);
        int place = text.firstFault();
        if (place != WHOLE) return -100 - place;
        house.open(text);
        return house.tales;
    }

    public int ofTale(int x, int what) {
        if (!house.hasTale(x)) return UNKNOWN;
        switch (what) {
            case 0: return house.kinds[x];
            case 1: return house.owners[x];
            case 2: return house.heights[x];
            case 3: return house.told[x];
            case 4: return house.last[x];
            case 5: return house.isTellable(x) ? 1 : 0;
            case 6: return house.tallOf(x);
            default: return OUTSIDE;
        }
    }

    public int memory(int v) {
        if (v < 0 || v > LONGEST_MEMORY) return OUTSIDE;
        if (!house.isOpen()) return STATE;
        int before = house.memory;
        house.memory = v;
        return before;
    }

    // ---- 2 nights

    public int choose(int g, int x) {
        if (!house.hasGuest(g)) return UNKNOWN;
        if (x != NONE) {
            if (!house.hasTale(x)) return UNKNOWN;
            if (house.owners[x] != g || !house.isTellable(x)) return STATE;
        }
        int before = house.chosen[g];
        house.chosen[g] = x;
        return before;
    }

    public int night() {
        if (!house.isOpen()) return STATE;
        if (house.nights >= MOST_NIGHTS) return FULL;
        house.tallsAsChosen(talls);
        return house.goBy(talls);
    }

    public int ofNight(int night, int g, int what) {
        if (!house.hasNight(night) || !house.hasGuest(g)) return UNKNOWN;
        int at = night * MOST_GUESTS + g;
        switch (what) {
            case 0: return house.nightTale[at];
            case 1: return house.nightPlace[at];
            case 2: return house.nightTall[at];
            default: return OUTSIDE;
        }
    }

    public int undo(int k) {
        if (k < 0 || k > house.nights) return OUTSIDE;
        house.goBack(k);
        return house.nights;
    }

    public int lay(int g, int place) {
        // there are as many places as guests
        if (!house.hasGuest(g) || !house.hasGuest(place)) return UNKNOWN;
        return house.nightsAt(g, place);
    }

    // ---- 3 tonight

    public int tonight(int g, int what) {
        if (!house.hasGuest(g)) return UNKNOWN;
        house.tallsAsChosen(talls);
        switch (what) {
            case 0: return house.chosen[g];
            case 1: return talls.placeOf(g, talls.of[g]);
            case 2: return talls.needOf(g);
            default: return OUTSIDE;
        }
    }

    public int answer(int g, int what) {
        return bestReply(g, what, false);
    }

    public int borrowed(int g, int what) {
        return bestReply(g, what, true);
    }

    public int bishop(int tall) {
        if (tall < 0 || tall > TALLEST_BISHOP) return OUTSIDE;
        if (!house.isOpen()) return STATE;
        house.tallsAsChosen(talls);
        return talls.noLessThan(tall);
    }

    public int rests(int g) {
        if (g != -1 && !house.hasGuest(g)) return UNKNOWN;
        if (!house.isOpen()) return 0;
        rests.find();
        return g == -1 ? rests.count : rests.first[g];
    }

    // ---- 4 winters

    public int winter(int g, int sheet, int sort, int i, int n, int q) {
        fault = 0;
        if (!house.hasGuest(g) || !isSheet(sheet)) return UNKNOWN;
        if (!isSort(sort)) return OUTSIDE;
        int found = sheets.faultOf(sheet, sort, i, n);
        if (found != 0) return faulty(found);
        if (n < 1 || n > LONGEST_WINTER) return OUTSIDE;
        if (q < -1 || q >= n) return UNKNOWN;
        sheets.take(sheet, i, n, winter.numbers);
        winter.find(g, n);
        return q == -1 ? winter.most : winter.first[q];
    }

    // ---- 5 trades, what was told

    public int trade(int x, int y) {
        if (!house.hasTale(x) || !house.hasTale(y)) return UNKNOWN;
        int g = house.owners[x];
        if (g == house.owners[y]) return STATE;
        // a tale traded for itself changes nothing: so many strong ones it has now
        return house.strongAfter(g, x, y) - house.strongAfter(g, x, x) + 100;
    }

    public int toldBy(int night, int g, int sheet, int sort, int i) {
        fault = 0;
        if (!house.hasNight(night) || !house.hasGuest(g) || !isSheet(sheet)) return UNKNOWN;
        if (!isSort(sort)) return OUTSIDE;
        int found = sheets.faultOf(sheet, sort, i, house.guests);
        if (found != 0) return faulty(found);
        sheets.take(sheet, i, house.guests, lying);
        if (!house.isRowOfAll(lying)) return OUTSIDE;
        return canHaveTold(night, g);
    }

    // ---- 6 sheets, parts

    public int sheet(int k, int sort, int n) {
        fault = 0;
        if (!isSheet(k)) return UNKNOWN;
        if (!isSort(sort) || n > MOST_CELLS) return OUTSIDE;
        if (n < 0) return faulty(SIZE);
        sheets.makeRow(k, sort, n);
        return 1;
    }

    public int lose(int k) {
        if (!isSheet(k)) return UNKNOWN;
        return sheets.dropRow(k) ? 1 : 0;
    }

    public int put(int k, int i, int v) {
        fault = 0;
        if (!isSheet(k)) return UNKNOWN;
        if (!sheets.hasRow(k)) return faulty(NULL);
        if (!sheets.hasCells(k, i, 1)) return faulty(INDEX);
        sheets.write(k, i, v);
        return 1;
    }

    public long cell(int k, int i, int sort) {
        fault = 0;
        if (!isSheet(k) || !isSort(sort)) return LOST;
        int found = sheets.faultOf(k, sort, i, 1);
        if (found != 0) {
            fault = found;
            return LOST;
        }
        return sheets.read(k, i);
    }

    public int copy(int k, int i, int other, int j, int n) {
        fault = 0;
        if (!isSheet(k) || !isSheet(other)) return UNKNOWN;
        if (!sheets.hasRow(k) || !sheets.hasRow(other)) return faulty(NULL);
        if (sheets.sorts[k] != sheets.sorts[other]) return faulty(CAST);
        if (!sheets.hasCells(k, i, n) || !sheets.hasCells(other, j, n)) return faulty(INDEX);
        sheets.move(k, i, other, j, n);
        return n;
    }

    public int tell(int x) {
        if (!house.hasTale(x)) return UNKNOWN;
        switch (house.kinds[x]) {
            case GROWN: return tellAsGrown(x);
            case TRUE: return tellAsTrue(x);
            default: return tellAsTale(x);
        }
    }

    public int swear(int x) {
        if (!house.hasTale(x)) return UNKNOWN;
        if (house.kinds[x] == TRUE) {
            leaveTrace(5);
            return SWORN_TRUE;
        }
        leaveTrace(4);
        return x;
    }

    public int as(int x, int kind) {
        fault = 0;
        if (!house.hasTale(x)) return UNKNOWN;
        if (kind < PLAIN || kind > TRUE) return OUTSIDE;
        // each kind is one of all kinds of lower numbers, too
        if (kind > house.kinds[x]) return faulty(CAST);
        return 1;
    }

    public int trace() {
        return trace;
    }

    public int fault() {
        return fault;
    }

    public int many(int what) {
        switch (what) {
            case 0: return house.guests;
            case 1: return house.tales;
            case 2: return house.nights;
            case 3: return house.memory;
            default: return OUTSIDE;
        }
    }

    // ---- what the calls share

    private static boolean isSheet(int k) {
        return k >= 0 && k < SHEETS;
    }

    private static boolean isSort(int sort) {
        return sort >= BYTES && sort <= INTS;
    }

    private int faulty(int found) {
        fault = found;
        return -10 - found;
    }

    private int bestReply(int g, int what, boolean ofOthers) {
        if (!house.hasGuest(g)) return UNKNOWN;
        if (what < 0 || what > 1) return OUTSIDE;
        house.tallsAsChosen(talls);
        int best = NONE;
        for (int x = 0; x < house.tales; x++) {
            if (!house.isOffered(g, x, ofOthers)) continue;
            if (best == NONE || isBetterReply(g, x, best)) best = x;
        }
        if (what == 0 || best == NONE) return best;
        return talls.placeOf(g, house.tallOf(best));
    }

    private boolean isBetterReply(int g, int x, int than) {
        int tall = house.tallOf(x);
        int thanTall = house.tallOf(than);
        int place = talls.placeOf(g, tall);
        int thanPlace = talls.placeOf(g, thanTall);
        return place < thanPlace || (place == thanPlace && tall < thanTall);
    }

    /** The set of what a guest can have told in that night, so that all lay as in lying. */
    private int canHaveTold(int night, int g) {
        house.tallsOfNight(night, talls);
        int set = 0;
        for (int x = 0; x < house.tales; x++) {
            if (house.owners[x] != g) continue;
            talls.of[g] = house.tallWhenTold(x, house.timesToldBefore(x, night));
            if (talls.layAs(lying)) set |= 1 << x;
        }
        talls.of[g] = 0;
        if (talls.layAs(lying)) set |= 1 << MOST_TALES;
        return set;
    }

    private void leaveTrace(int body) {
        trace = 31 * trace + body;
    }

    private int tellAsTale(int x) {
        leaveTrace(1);
        return house.heights[x];
    }

    private int tellAsGrown(int x) {
        leaveTrace(2);
        return tellAsTale(x) + 100;
    }

    private int tellAsTrue(int x) {
        leaveTrace(3);
        int grown = tellAsGrown(x);
        return grown + tellAsTale(x);
    }

    /** The four sheets, all in one row of cells that is never made anew: calls make no objects. */
    private static final class Sheets {
        final int[] cells = new int[SHEETS * MOST_CELLS];
        final int[] sorts = new int[SHEETS];
        /** How many cells each has; NONE: it has nothing. */
        final int[] lengths = new int[SHEETS];

        Sheets() {
            Arrays.fill(lengths, NONE);
        }

        boolean hasRow(int k) {
            return lengths[k] != NONE;
        }

        /** Also where n is 0 the first cell has to be there, or to be the end. */
        boolean hasCells(int k, int i, int n) {
            return i >= 0 && n >= 0 && n <= lengths[k] && i <= lengths[k] - n;
        }

        /** The fault that is come to by taking n cells from i on as a row of a sort; 0: none. */
        int faultOf(int k, int sort, int i, int n) {
            if (!hasRow(k)) return NULL;
            if (sorts[k] != sort) return CAST;
            if (n < 0) return SIZE;
            return hasCells(k, i, n) ? 0 : INDEX;
        }

        void makeRow(int k, int sort, int n) {
            sorts[k] = sort;
            lengths[k] = n;
            Arrays.fill(cells, k * MOST_CELLS, k * MOST_CELLS + n, 0);
        }

        boolean dropRow(int k) {
            boolean had = hasRow(k);
            lengths[k] = NONE;
            return had;
        }

        int read(int k, int i) {
            return cells[k * MOST_CELLS + i];
        }

        void write(int k, int i, int v) {
            int cut = v;
            if (sorts[k] == BYTES) cut = (byte) v;
            if (sorts[k] == SHORTS) cut = (short) v;
            cells[k * MOST_CELLS + i] = cut;
        }

        void take(int k, int i, int n, int[] row) {
            System.arraycopy(cells, k * MOST_CELLS + i, row, 0, n);
        }

        void move(int k, int i, int other, int j, int n) {
            System.arraycopy(cells, k * MOST_CELLS + i, cells, other * MOST_CELLS + j, n);
        }
    }

    /** A text that an inn is to be made by. */
    private static final class Text {
        static final int HEAD = 2, TALE_CODES = 5;

        final int[] codes = new int[MOST_CELLS];
        int length;

        Text() {
        }

        int firstFault() {
            for (int p = 0; p < length; p++) {
                if (!goesOn(p)) return p;
            }
            boolean ends = length > HEAD && (length - HEAD) % TALE_CODES == 0;
            return ends ? WHOLE : length;
        }

        /** Whether the code at p goes on with a text, if all ahead of it do. */
        boolean goesOn(int p) {
            int code = codes[p];
            if (p == 0) return code == 'i';
            if (p == 1) return code >= '2' && code <= '5';
            switch ((p - HEAD) % TALE_CODES) {
                case 0: return code == ';' && p < HEAD + MOST_TALES * TALE_CODES;
                case 1: return code == 't' || code == 'g' || code == 'w';
                case 2: return code >= '0' && code < codes[1];
                // of 00 the first digit is the fault, so the second one is looked at here
                case 3: return isDigit(code) && !(code == '0' && p + 1 < length && codes[p + 1] == '0');
                default: return isDigit(code);
            }
        }

        static boolean isDigit(int code) {
            return code >= '0' && code <= '9';
        }

        int guests() {
            return codes[1] - '0';
        }

        int tales() {
            return (length - HEAD) / TALE_CODES;
        }

        int kindOf(int x) {
            int letter = codes[HEAD + x * TALE_CODES + 1];
            return letter == 'w' ? TRUE : letter == 'g' ? GROWN : PLAIN;
        }

        int ownerOf(int x) {
            return codes[HEAD + x * TALE_CODES + 2] - '0';
        }

        int heightOf(int x) {
            int at = HEAD + x * TALE_CODES + 3;
            return (codes[at] - '0') * 10 + codes[at + 1] - '0';
        }
    }

    /** How tall what each guest tells is; 0 for none: less than any tale, so it lies behind all. */
    private static final class Talls {
        final int[] of = new int[MOST_GUESTS];
        int guests;

        Talls() {
        }

        /** The place of a guest with one so tall, others as they are. */
        int placeOf(int g, int tall) {
            int place = 0;
            for (int o = 0; o < guests; o++) {
                if (o == g) continue;
                if (of[o] > tall || (of[o] == tall && o < g)) place++;
            }
            return place;
        }

        int needOf(int g) {
            int need = 1;
            for (int o = 0; o < guests; o++) {
                if (o == g) continue;
                need = Math.max(need, o < g ? of[o] + 1 : of[o]);
            }
            return need;
        }

        int noLessThan(int tall) {
            int count = 0;
            for (int g = 0; g < guests; g++) {
                if (of[g] > 0 && of[g] >= tall) count++;
            }
            return count;
        }

        boolean layAs(int[] row) {
            for (int p = 0; p < guests; p++) {
                int g = row[p];
                if (placeOf(g, of[g]) != p) return false;
            }
            return true;
        }
    }

    /** The inn: its guests, tales and nights. Without an inn there are none of them. */
    private static final class House {
        int guests, tales, memory, nights;
        final int[] kinds = new int[MOST_TALES];
        final int[] owners = new int[MOST_TALES];
        final int[] heights = new int[MOST_TALES];
        final int[] told = new int[MOST_TALES];
        final int[] last = new int[MOST_TALES];
        final int[] chosen = new int[MOST_GUESTS];
        /** Of each night that is over a row by guests. */
        final int[] nightTale = new int[MOST_NIGHTS * MOST_GUESTS];
        final int[] nightPlace = new int[MOST_NIGHTS * MOST_GUESTS];
        final int[] nightTall = new int[MOST_NIGHTS * MOST_GUESTS];

        House() {
        }

        void open(Text text) {
            guests = text.guests();
            tales = text.tales();
            for (int x = 0; x < tales; x++) {
                kinds[x] = text.kindOf(x);
                owners[x] = text.ownerOf(x);
                heights[x] = text.heightOf(x);
            }
            memory = LONGEST_MEMORY;
            goBack(nights);
        }

        boolean isOpen() {
            return guests > 0;
        }

        boolean hasGuest(int g) {
            return g >= 0 && g < guests;
        }

        boolean hasTale(int x) {
            return x >= 0 && x < tales;
        }

        boolean hasNight(int night) {
            return night >= 0 && night < nights;
        }

        /** Whether a tale may be told in a night, told so often and the last time in that one ahead of it. */
        boolean mayBeTold(int x, int times, int lastNight, int night) {
            if (times == 0) return true;
            switch (kinds[x]) {
                case GROWN: return lastNight != night - 1;
                case TRUE: return false;
                default: return night >= lastNight + 1 + memory;
            }
        }

        boolean isTellable(int x) {
            return mayBeTold(x, told[x], last[x], nights);
        }

        int tallWhenTold(int x, int times) {
            switch (kinds[x]) {
                case GROWN: return heights[x] + 10 * times;
                case TRUE: return heights[x] + 900;
                default: return heights[x];
            }
        }

        int tallOf(int x) {
            return tallWhenTold(x, told[x]);
        }

        boolean isOffered(int g, int x, boolean ofOthers) {
            if (!isTellable(x)) return false;
            int owner = owners[x];
            return ofOthers ? owner != g && chosen[owner] != x : owner == g;
        }

        void tallsAsChosen(Talls talls) {
            talls.guests = guests;
            for (int g = 0; g < guests; g++) {
                talls.of[g] = hasTale(chosen[g]) ? tallOf(chosen[g]) : 0;
            }
        }

        void tallsOfNight(int night, Talls talls) {
            talls.guests = guests;
            for (int g = 0; g < guests; g++) {
                talls.of[g] = nightTall[night * MOST_GUESTS + g];
            }
        }

        /** A night goes by: the guest that has the bed. */
        int goBy(Talls talls) {
            int bed = NONE;
            for (int g = 0; g < guests; g++) {
                int at = nights * MOST_GUESTS + g;
                nightTale[at] = chosen[g];
                nightTall[at] = talls.of[g];
                nightPlace[at] = talls.placeOf(g, talls.of[g]);
                if (nightPlace[at] == 0) bed = g;
            }
            for (int g = 0; g < guests; g++) {
                keepTold(chosen[g], nights);
            }
            nights++;
            Arrays.fill(chosen, NONE);
            return bed;
        }

        void keepTold(int x, int night) {
            if (!hasTale(x)) return;
            told[x]++;
            last[x] = night;
        }

        /** The last k nights are undone: what was told is counted anew by those that are left. */
        void goBack(int k) {
            nights -= k;
            Arrays.fill(chosen, NONE);
            Arrays.fill(told, 0);
            Arrays.fill(last, NONE);
            for (int night = 0; night < nights; night++) {
                for (int g = 0; g < guests; g++) {
                    keepTold(nightTale[night * MOST_GUESTS + g], night);
                }
            }
        }

        int nightsAt(int g, int place) {
            int count = 0;
            for (int night = 0; night < nights; night++) {
                if (nightPlace[night * MOST_GUESTS + g] == place) count++;
            }
            return count;
        }

        int timesToldBefore(int x, int night) {
            int count = 0;
            for (int n = 0; n < night; n++) {
                if (nightTale[n * MOST_GUESTS + owners[x]] == x) count++;
            }
            return count;
        }

        int ownerAfter(int t, int x, int y) {
            if (t == x) return owners[y];
            return t == y ? owners[x] : owners[t];
        }

        /** How many strong ones a guest would have, if x and y were traded. */
        int strongAfter(int g, int x, int y) {
            int others = 0;
            for (int t = 0; t < tales; t++) {
                if (isTellable(t) && ownerAfter(t, x, y) != g) others = Math.max(others, tallOf(t));
            }
            int count = 0;
            for (int t = 0; t < tales; t++) {
                if (isTellable(t) && ownerAfter(t, x, y) == g && tallOf(t) > others) count++;
            }
            return count;
        }

        boolean isRowOfAll(int[] row) {
            int seen = 0;
            for (int p = 0; p < guests; p++) {
                if (!hasGuest(row[p])) return false;
                seen |= 1 << row[p];
            }
            return seen == (1 << guests) - 1;
        }
    }

    /** Choices of all guests by which none alone had a better place by another tale of its own. */
    private static final class Rests {
        /** Far above the choices there are: of 10 tales in all no more than 36. */
        static final int MOST_CHOICES = 1000;

        final House house;
        final Talls talls;
        final int[] picks = new int[MOST_GUESTS];
        final int[] first = new int[MOST_GUESTS];
        int count;

        Rests(House house, Talls talls) {
            this.house = house;
            this.talls = talls;
        }

        void find() {
            count = 0;
            for (int g = 0; g < house.guests; g++) {
                picks[g] = ownAfter(g, NONE);
            }
            boolean more = true;
            for (int n = 0; more && n < MOST_CHOICES; n++) {
                if (isRest()) keepRest();
                more = goOn();
            }
        }

        void keepRest() {
            if (count == 0) System.arraycopy(picks, 0, first, 0, MOST_GUESTS);
            count++;
        }

        /** The next tale of a guest's own, behind x, that may be told. */
        int ownAfter(int g, int x) {
            for (int t = Math.max(x + 1, 0); t < house.tales; t++) {
                if (house.owners[t] == g && house.isTellable(t)) return t;
            }
            return NONE;
        }

        /** The next choices in the order of rows: the last guest's change first. */
        boolean goOn() {
            for (int g = house.guests - 1; g >= 0; g--) {
                int next = ownAfter(g, picks[g]);
                if (next != NONE) {
                    picks[g] = next;
                    return true;
                }
                picks[g] = ownAfter(g, NONE);
            }
            return false;
        }

        boolean isRest() {
            talls.guests = house.guests;
            for (int g = 0; g < house.guests; g++) {
                talls.of[g] = house.hasTale(picks[g]) ? house.tallOf(picks[g]) : 0;
            }
            for (int g = 0; g < house.guests; g++) {
                if (canDoBetter(g)) return false;
            }
            return true;
        }

        boolean canDoBetter(int g) {
            int place = talls.placeOf(g, talls.of[g]);
            for (int x = 0; x < house.tales; x++) {
                if (!house.isOffered(g, x, false)) continue;
                if (talls.placeOf(g, house.tallOf(x)) < place) return true;
            }
            return false;
        }
    }

    /** A guest's winter against a row of numbers, one a night. */
    private static final class Winter {
        final House house;
        final int[] numbers = new int[LONGEST_WINTER];
        /** How many of the nights from each on could be won at the very most. */
        final int[] ahead = new int[LONGEST_WINTER + 1];
        final int[] told = new int[MOST_TALES];
        final int[] last = new int[MOST_TALES];
        final int[] row = new int[LONGEST_WINTER];
        final int[] first = new int[LONGEST_WINTER];
        int guest, length, most;

        Winter(House house) {
            this.house = house;
        }

        void find(int g, int n) {
            guest = g;
            length = n;
            most = -1;
            System.arraycopy(house.told, 0, told, 0, MOST_TALES);
            System.arraycopy(house.last, 0, last, 0, MOST_TALES);
            ahead[n] = 0;
            for (int q = n - 1; q >= 0; q--) {
                ahead[q] = ahead[q + 1] + (isWithinReach(q) ? 1 : 0);
            }
            search(this, 0, 0);
        }

        /** Whether some tale could be tall enough in night q: a grown one by then told every other night. */
        boolean isWithinReach(int q) {
            for (int x = 0; x < house.tales; x++) {
                if (house.owners[x] == guest && house.tallWhenTold(x, told[x] + q / 2) > numbers[q]) return true;
            }
            return false;
        }

        boolean wins(int x, int q) {
            return house.owners[x] == guest
                && house.mayBeTold(x, told[x], last[x], house.nights + q)
                && house.tallWhenTold(x, told[x]) > numbers[q];
        }

        void keep(int won) {
            if (won <= most) return;
            most = won;
            System.arraycopy(row, 0, first, 0, LONGEST_WINTER);
        }

        /** Rows come in their order, so one that wins no more nights than an earlier one is no better. */
        private static void search(Winter w, int q, int won) {
            if (q >= w.length) {
                w.keep(won);
                return;
            }
            if (won + w.ahead[q] <= w.most) return;
            for (int x = 0; x < w.house.tales; x++) {
                if (!w.wins(x, q)) continue;
                int before = w.last[x];
                w.told[x]++;
                w.last[x] = w.house.nights + q;
                w.row[q] = x;
                search(w, q + 1, won + 1);
                w.told[x]--;
                w.last[x] = before;
            }
            w.row[q] = NONE;
            search(w, q + 1, won);
        }
    }
}
