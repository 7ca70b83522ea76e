/** Promise 15, sentence by sentence: the bounds that each names, and what is refused. */
public final class WinterBoundsTest {
    private static final int NONE = TallTales.NONE, MIN = Integer.MIN_VALUE, MAX = Integer.MAX_VALUE;

    public static void main(String[] args) {
        p15Unknown();
        p15OutsideSort();
        p15Faults();
        p15NotAllCellsAreThere();
        p15FromCellIOn();
        p15OneToSixNumbers();
        p15EachNight();
        p15ItIsOnlyTold();
        p15Taller();
        p15NoneOnOtherNights();
        p15OthersAreNoMatter();
        p15Memory();
        p15FromTonightOn();
        p15EachRowByItself();
        p15Grown();
        p15True();
        p15NoneCountsAsTen();
        p15TheFirstRow();
        p15MoreThanAtFirst();
        p15EachRowAnew();
        p15NoTales();
        p15BehindSixtyNights();
        Check.end("WinterBoundsTest");
    }

    // "UNKNOWN: GUEST, SHEET; OUTSIDE: sort; FAULTS CAST, NULL, SIZE, INDEX; OUTSIDE: n is not 1 .. 6; UNKNOWN: q is not
    // -1 .. n - 1." What comes later in the line is wrong in these calls, too.

    private static void p15Unknown() {
        for (int g : new int[] {MIN, NONE, -1, 3, 4, 5, MAX}) {
            Seen.leavesAll("15 UNKNOWN: GUEST " + g, Ways::lived, t -> t.winter(g, 0, 3, -1, -1, -2), -1, 0);
            Seen.leavesAll("15 UNKNOWN: GUEST alone " + g, Ways::lived, t -> t.winter(g, 2, 2, 0, 6, -1), -1, 0);
        }
        for (int k : new int[] {MIN, -1, 4, 5, MAX}) {
            Seen.leavesAll("15 UNKNOWN: SHEET " + k, Ways::lived, t -> t.winter(0, k, 3, -1, -1, -2), -1, 0);
        }
        Seen.leavesAll("15 UNKNOWN without an inn", Ways::nothing, t -> t.winter(0, 0, 3, -1, -1, -2), -1, 0);
        Seen.leavesAll("15 UNKNOWN without an inn", Ways::nothing, t -> t.winter(0, 0, 0, 0, 1, 0), -1, 0);
    }

    private static void p15OutsideSort() {
        for (int sort : new int[] {MIN, -1, 3, MAX}) {
            for (int k = 0; k < 4; k++) {
                int of = k;
                Seen.leavesAll("15 OUTSIDE: sort " + sort, Ways::lived, t -> t.winter(0, of, sort, -1, -1, -2), -2, 0);
            }
        }
        for (int k = 0; k < 4; k++) {
            for (int sort = 0; sort < 3; sort++) {
                TallTales t = Check.inn("i2;t001");
                Check.row(t, k, sort, 0);
                Check.due("15 each SHEET and SORT is taken", t, t.winter(0, k, sort, 0, 1, -1), 1, 0);
            }
        }
    }

    private static void p15Faults() {
        for (int sort = 0; sort < 3; sort++) {
            int of = sort;
            Seen.leavesAll("15 nothing: NULL", Ways::lived, t -> t.winter(0, 3, of, -1, -1, -2), -11, 1);
            if (sort != 0) Seen.leavesAll("15 CAST from bytes", Ways::lived, t -> t.winter(0, 0, of, -1, -1, -2), -12, 2);
            if (sort != 1) Seen.leavesAll("15 CAST from shorts", Ways::lived, t -> t.winter(0, 1, of, -1, -1, -2), -12, 2);
            if (sort != 2) Seen.leavesAll("15 CAST from ints", Ways::lived, t -> t.winter(0, 2, of, -1, -1, -2), -12, 2);
        }
        Seen.leavesAll("15 SIZE ahead of INDEX", Ways::lived, t -> t.winter(0, 1, 1, -1, -1, -2), -14, 4);
        Seen.leavesAll("15 SIZE ahead of OUTSIDE", Ways::lived, t -> t.winter(0, 1, 1, 0, MIN, -2), -14, 4);
    }

    private static void p15NotAllCellsAreThere() {
        int[][] beyond = {
            {-1, 0}, {-1, 1}, {MIN, 1}, {4, 0}, {3, 1}, {2, 2}, {1, 3}, {0, 4}, {0, 7}, {MAX, 0}, {MAX, 6}, {MAX, MAX}, {1, MAX}};
        for (int[] in : beyond) {
            String call = "15 INDEX " + in[0] + " " + in[1];
            Seen.leavesAll(call, Ways::lived, t -> t.winter(0, 1, 1, in[0], in[1], -2), -13, 3);
        }
        for (int i = 0; i < 3; i++) {
            int from = i;
            Seen.leavesAll("15 all are there", Ways::lived, t -> t.winter(1, 1, 1, from, 3 - from, -1), i < 2 ? 1 : 0, 0);
        }
        // the last six of sixty, and one beyond
        Seen.leavesAll("15 the last six", Ways::lived, t -> t.winter(2, 2, 2, 54, 6, -1), 1, 0);
        Seen.leavesAll("15 one beyond", Ways::lived, t -> t.winter(2, 2, 2, 55, 6, -1), -13, 3);
    }

    // "A WINTER of n such cells"

    private static void p15FromCellIOn() {
        TallTales t = Check.inn("i2;t050;t030");
        Check.row(t, 0, 1, 60, 40, 20, 70, 10);
        int[][] rows = {{NONE, 0, 1, NONE, NONE}, {0, 1, NONE, NONE}, {0, NONE, 1}, {NONE, 0}, {0}};
        for (int i = 0; i < 5; i++) {
            for (int q = 0; q < 5 - i; q++) {
                Check.due("15 from " + i + " on, night " + q, t, t.winter(0, 0, 1, i, 5 - i, q), rows[i][q], 0);
            }
        }
    }

    private static void p15OneToSixNumbers() {
        for (int n : new int[] {0, 7, 8, 60}) {
            for (int q : new int[] {-2, -1, 0, n - 1, n}) {
                Seen.leavesAll("15 OUTSIDE: n " + n, Ways::lived, t -> t.winter(0, 2, 2, 0, n, q), -2, 0);
            }
        }
        Seen.leavesAll("15 OUTSIDE: none at the end", Ways::lived, t -> t.winter(0, 1, 1, 3, 0, -1), -2, 0);
        Seen.leavesAll("15 OUTSIDE: none of none", t -> {
            Ways.lived(t);
            t.sheet(3, 0, 0);
        }, t -> t.winter(0, 3, 0, 0, 0, -1), -2, 0);
        TallTales t = Check.inn("i2;t050");
        t.memory(0);
        t.sheet(1, 1, 60);
        for (int n = 1; n <= 6; n++) Check.due("15 n " + n, t, t.winter(0, 1, 1, 0, n, -1), n, 0);
    }

    // "the most nights (q -1), the TALE of the q-th (0 on; NONE)"

    private static void p15EachNight() {
        for (int n = 1; n <= 6; n++) {
            int length = n;
            for (int q : new int[] {MIN, NONE, -3, -2, n, n + 1, 6, 7, MAX}) {
                if (q >= 0 && q < n) continue;
                Seen.leavesAll("15 UNKNOWN: q " + q + " of " + n, Ways::lived, t -> t.winter(0, 2, 2, 0, length, q), -1, 0);
            }
        }
        TallTales t = Check.inn("i2;t050;t060;t070;t080;t090;t099");
        for (int n = 1; n <= 6; n++) {
            Check.row(t, 1, 0, 49, 59, 69, 79, 89, 98);
            Check.due("15 the most of " + n, t, t.winter(0, 1, 0, 0, n, -1), n, 0);
            for (int q = 0; q < n; q++) Check.due("15 the TALE of " + q + " of " + n, t, t.winter(0, 1, 0, 0, n, q), q, 0);
            Check.due("15 one beyond", t, t.winter(0, 1, 0, 0, n, n), -1, 0);
        }
        Check.row(t, 1, 0, 99, 99, 99, 99, 99, 99);
        Check.due("15 no night", t, t.winter(0, 1, 0, 0, 6, -1), 0, 0);
        for (int q = 0; q < 6; q++) Check.due("15 NONE", t, t.winter(0, 1, 0, 0, 6, q), NONE, 0);
    }

    private static void p15ItIsOnlyTold() {
        // of guest 0 against 100000 0 0 0 0 0 with a MEMORY of 2: 99 at once, 50 as soon as it MAY be told
        int[] row = {NONE, 3, 0, NONE, 3, 0};
        for (int q = 0; q < 6; q++) {
            int of = q;
            Seen.leavesAll("15 it is only told", Ways::lived, t -> t.winter(0, 2, 2, 0, 6, of), row[q], 0);
        }
        Seen.leavesAll("15 it is only told", Ways::lived, t -> t.winter(0, 2, 2, 0, 6, -1), 4, 0);
    }

    private static void winter(TallTales t, int g, int[] numbers, int... row) {
        Check.row(t, 1, 2, numbers);
        int n = numbers.length;
        int most = 0;
        for (int x : row) if (x != NONE) most++;
        Check.due("15 the most of GUEST " + g, t, t.winter(g, 1, 2, 0, n, -1), most, 0);
        for (int q = 0; q < n; q++) Check.due("15 night " + q + " of GUEST " + g, t, t.winter(g, 1, 2, 0, n, q), row[q], 0);
    }

    private static int[] numbers(int... all) {
        return all;
    }

    // "one of its own that is taller than the number"

    private static void p15Taller() {
        String[] texts = {"i2;t001", "i2;t099", "i2;g001", "i2;g099", "i2;w001", "i2;w099"};
        int[] tall = {1, 99, 1, 99, 901, 999};
        for (int n = 0; n < texts.length; n++) {
            TallTales t = Check.inn(texts[n]);
            winter(t, 0, numbers(tall[n] - 1), 0);
            winter(t, 0, numbers(tall[n]), NONE);
            winter(t, 0, numbers(tall[n] + 1), NONE);
            winter(t, 0, numbers(MIN), 0);
            winter(t, 0, numbers(-1), 0);
            winter(t, 0, numbers(MAX), NONE);
            // not the other one's
            winter(t, 1, numbers(MIN), NONE);
        }
        // the numbers are cut to their SORT: 256 + 98 is 98 as a byte, 65536 + 98 as a short, 128 is below 0
        TallTales t = Check.inn("i2;t099");
        int[][] due = {{256 + 98, 1, 0, 0}, {256 + 99, 0, 0, 0}, {65536 + 98, 1, 1, 0}, {128, 1, 0, 0}, {32768, 1, 1, 0}};
        for (int[] d : due) {
            for (int sort = 0; sort < 3; sort++) {
                Check.row(t, 2, sort, d[0]);
                Check.due("15 " + d[0] + " in SORT " + sort, t.winter(0, 2, sort, 0, 1, -1), d[1 + sort]);
            }
        }
    }

    // "(on all other nights it tells none"

    private static void p15NoneOnOtherNights() {
        // told in vain on night 0 the GROWN one would win on night 2
        TallTales t = Check.inn("i2;g010");
        winter(t, 0, numbers(10, 10, 19), NONE, NONE, NONE);
        winter(t, 0, numbers(9, 10, 19), 0, NONE, 0);
        winter(t, 0, numbers(9, 10, 20), 0, NONE, NONE);
        winter(t, 0, numbers(9, 9, 19, 20, 29, 29), 0, NONE, 0, NONE, 0, NONE);
        winter(t, 0, numbers(9, 9, 19, 20, 30, 29), 0, NONE, 0, NONE, NONE, 0);
    }

    // "what others tell is no matter"

    private static void p15OthersAreNoMatter() {
        TallTales t = Check.inn("i3;t010;t020;w101;w202");
        winter(t, 0, numbers(5, 5, 5), 0, 1, NONE);
        t.choose(1, 2);
        t.choose(2, 3);
        winter(t, 0, numbers(5, 5, 5), 0, 1, NONE);
        // nor what it has CHOSEN itself
        t.choose(0, 1);
        winter(t, 0, numbers(5, 5, 5), 0, 1, NONE);
        winter(t, 0, numbers(15), 1);
        winter(t, 1, numbers(900, 900), 2, NONE);
        winter(t, 2, numbers(901, 5), 3, NONE);
        winter(t, 2, numbers(902, 5), NONE, 3);
    }

    // "the last time in a NIGHT x such that TONIGHT is x and 1 and MEMORY or later": on each night of the winter

    private static void p15Memory() {
        TallTales t = Check.inn("i2;t010");
        int[] zeroes = numbers(0, 0, 0, 0, 0, 0);
        t.memory(0);
        winter(t, 0, zeroes, 0, 0, 0, 0, 0, 0);
        t.memory(1);
        winter(t, 0, zeroes, 0, NONE, 0, NONE, 0, NONE);
        t.memory(2);
        winter(t, 0, zeroes, 0, NONE, NONE, 0, NONE, NONE);
        t.memory(3);
        winter(t, 0, zeroes, 0, NONE, NONE, NONE, 0, NONE);
        t.memory(4);
        winter(t, 0, zeroes, 0, NONE, NONE, NONE, NONE, 0);
        t.memory(5);
        winter(t, 0, zeroes, 0, NONE, NONE, NONE, NONE, NONE);
        t.memory(99);
        winter(t, 0, zeroes, 0, NONE, NONE, NONE, NONE, NONE);
        // wins on night 1 cost the one on night 0 or 2, with a MEMORY of 1
        t.memory(1);
        winter(t, 0, numbers(10, 0, 0), NONE, 0, NONE);
        winter(t, 0, numbers(10, 0, 0, 0), NONE, 0, NONE, 0);
        winter(t, 0, numbers(10, 10, 0, 0), NONE, NONE, 0, NONE);
    }

    // "one a night from TONIGHT on"

    private static void p15FromTonightOn() {
        for (int memory = 0; memory <= 7; memory++) {
            TallTales t = Check.inn("i2;t010;t105");
            Check.night(t, 0, NONE);
            Check.night(t, NONE, 1);
            t.memory(memory);
            Check.row(t, 1, 2, 0, 0, 0, 0, 0, 0);
            // told in night 0 it MAY be told again in night 1 + MEMORY, which is night MEMORY - 1 from TONIGHT (2) on
            int first = Math.max(memory - 1, 0);
            for (int q = 0; q < 6 && q <= first; q++) {
                int due = q < first ? NONE : 0;
                Check.due("15 MEMORY " + memory + ", night " + q, t.winter(0, 1, 2, 0, 6, q), due);
            }
            // told in night 1 the other one's MAY be told again in night 2 + MEMORY
            for (int q = 0; q < 6 && q <= memory; q++) {
                int due = q < memory ? NONE : 1;
                Check.due("15 MEMORY " + memory + ", night " + q + " of the other", t.winter(1, 1, 2, 0, 6, q), due);
            }
        }
    }

    /** Rows are tried from what was told ahead of the winter, not from what an earlier row told. */
    private static void p15EachRowByItself() {
        TallTales t = Check.inn("i2;t050;t042");
        t.memory(2);
        Check.night(t, 0, NONE);
        t.night();
        t.night();
        winter(t, 0, numbers(40, 45), 1, 0);
        winter(t, 0, numbers(40, 45), 1, 0);
        TallTales grown = Check.inn("i2;g050;t042");
        Check.night(grown, 0, NONE);
        grown.night();
        winter(grown, 0, numbers(40, 45), 1, 0);
        winter(grown, 0, numbers(40, 59), 1, 0);
        winter(grown, 0, numbers(40, 60, 65), 0, NONE, 0);
    }

    private static void p15Grown() {
        TallTales t = Check.inn("i2;g010");
        winter(t, 0, numbers(0, 0, 0, 0, 0, 0), 0, NONE, 0, NONE, 0, NONE);
        Check.night(t, 0, NONE);
        // told last night: from the second night on, 20 TALL, then 30
        winter(t, 0, numbers(0, 0, 0, 0, 0, 0), NONE, 0, NONE, 0, NONE, 0);
        winter(t, 0, numbers(19, 19, 29, 29, 39, 39), NONE, 0, NONE, 0, NONE, 0);
        winter(t, 0, numbers(19, 20, 19, 30, 29, 30), NONE, NONE, 0, NONE, 0, NONE);
        t.memory(0);
        winter(t, 0, numbers(0, 0, 0), NONE, 0, NONE);
        t.night();
        winter(t, 0, numbers(19, 0, 29, 0, 39, 0), 0, NONE, 0, NONE, 0, NONE);
        winter(t, 0, numbers(20, 0, 29, 0, 39, 0), NONE, 0, NONE, 0, NONE, 0);
        // two take turns
        winter(Check.inn("i2;g010;g010"), 0, numbers(9, 9, 19, 19, 29, 29), 0, 1, 0, 1, 0, 1);
        winter(Check.inn("i2;g010;g010"), 0, numbers(9, 9, 20, 19, 29, 29), 0, 1, NONE, 0, NONE, 0);
        // what is too low at first wins most of all: told on night 0, it is 105 TALL on night 2, 115 on night 4
        TallTales late = Check.inn("i2;t099;t098;g095");
        winter(late, 0, numbers(90, 96, 100), 2, 0, 2);
        winter(late, 0, numbers(90, 96, 104, 97, 114), 2, 0, 2, 1, 2);
        winter(late, 0, numbers(90, 96, 105, 97, 104), 2, 0, NONE, 1, 2);
        winter(late, 0, numbers(95, 96, 104), 0, 1, NONE);
    }

    private static void p15True() {
        TallTales t = Check.inn("i2;w010");
        t.memory(0);
        winter(t, 0, numbers(0, 0, 0, 0, 0, 0), 0, NONE, NONE, NONE, NONE, NONE);
        winter(t, 0, numbers(910, 909, 909), NONE, 0, NONE);
        Check.night(t, 0, NONE);
        winter(t, 0, numbers(0, 0, 0, 0, 0, 0), NONE, NONE, NONE, NONE, NONE, NONE);
        t.undo(1);
        winter(t, 0, numbers(0), 0);
    }

    // "of several rows of the most nights the first (NONE counts as 10)"

    private static void p15NoneCountsAsTen() {
        TallTales t = Check.inn("i2;t101;t101;t101;t101;t101;t101;t101;t101;t101;t010");
        // tale 9 is still ahead of none
        winter(t, 0, numbers(5, 5), 9, NONE);
        winter(t, 0, numbers(5, 5, 5, 5, 5, 5), 9, NONE, NONE, NONE, NONE, NONE);
        winter(t, 0, numbers(10, 5, 5), NONE, 9, NONE);
        winter(t, 0, numbers(10, 10, 5), NONE, NONE, 9);
        TallTales first = Check.inn("i2;t010");
        winter(first, 0, numbers(5, 5), 0, NONE);
        TallTales two = Check.inn("i2;t101;t101;t101;t101;t101;t101;t101;t101;t010;t020");
        winter(two, 0, numbers(5, 5, 5), 8, 9, NONE);
        winter(two, 0, numbers(5, 15, 5), 8, 9, NONE);
        winter(two, 0, numbers(15, 15, 5), 9, NONE, 8);
        winter(two, 0, numbers(20, 15, 5), NONE, 9, 8);
    }

    private static void p15TheFirstRow() {
        // more nights are more than an earlier row
        TallTales t = Check.inn("i2;t050;t020");
        winter(t, 0, numbers(10, 30), 1, 0);
        winter(t, 0, numbers(10, 10), 0, 1);
        winter(t, 0, numbers(30, 30), 0, NONE);
        winter(t, 0, numbers(30, 60, 30), 0, NONE, NONE);
        // the first of the rows, not the tallest and not the least
        TallTales like = Check.inn("i2;t030;t050;t020;t030");
        winter(like, 0, numbers(10, 10, 10), 0, 1, 2);
        winter(like, 0, numbers(10, 10, 10, 10), 0, 1, 2, 3);
        winter(like, 0, numbers(25, 10, 25), 0, 1, 3);
        winter(like, 0, numbers(10, 25, 25), 0, 1, 3);
        winter(like, 0, numbers(40, 10, 25), 1, 0, 3);
        winter(like, 0, numbers(25, 25, 25), 0, 1, 3);
        winter(like, 0, numbers(25, 40, 25), 0, 1, 3);
        winter(like, 0, numbers(40, 40, 25), 1, NONE, 0);
    }

    /** What the most needs is not what is won first: nights out of reach, and ones come to by growing alone. */
    private static void p15MoreThanAtFirst() {
        for (int g = 0; g < 3; g++) {
            TallTales t = Check.inn("i3;t050;t030".replace(";t0", ";t" + g));
            winter(t, g, numbers(99, 10, 40), NONE, 1, 0);
            winter(t, g, numbers(10, 99, 40), 1, NONE, 0);
            winter(t, g, numbers(10, 40, 99), 1, 0, NONE);
            TallTales grown = Check.inn("i3;g010;g020".replace(";g0", ";g" + g));
            winter(grown, g, numbers(5, 35, 25), 1, NONE, 1);
            winter(grown, g, numbers(5, 5, 25), 1, 0, 1);
            winter(grown, g, numbers(5, 5, 25, 15, 35), 1, 0, 1, 0, 1);
            TallTales few = Check.inn("i3;g020;g030".replace(";g0", ";g" + g));
            winter(few, g, numbers(15, 65, 35), 1, NONE, 1);
            winter(few, g, numbers(5, 15, 35), 1, 0, 1);
            winter(few, (g + 1) % 3, numbers(5, 15, 35), NONE, NONE, NONE);
        }
    }

    /** What is told in one row is no matter in another one: when a tale was told the last time is as it was. */
    private static void p15EachRowAnew() {
        // told in night 0, TONIGHT 4: 0 MAY be told on each night, and is wanted on the third
        TallTales t = Check.inn("i2;t050;t060;t020");
        t.memory(2);
        Check.night(t, 0, NONE);
        for (int n = 0; n < 3; n++) t.night();
        winter(t, 0, numbers(55, 10, 40), 1, 2, 0);
        // told last night: it MAY be told on the third night at first, and is wanted on the fourth
        String[] texts = {"i2;t050;t020", "i2;t050;t006;t007;t020", "i2;t101;t101;t050;t020"};
        int[][] rows = {{NONE, NONE, 1, 0}, {1, 2, 3, 0}, {NONE, NONE, 3, 2}};
        int[] told = {0, 0, 2};
        for (int n = 0; n < texts.length; n++) {
            TallTales late = Check.inn(texts[n]);
            late.memory(2);
            Check.night(late, told[n], NONE);
            int low = n == 1 ? 5 : 99;
            winter(late, 0, numbers(low, low, 10, 40), rows[n]);
            winter(late, 0, numbers(99, 99, 40, 99), NONE, NONE, told[n], NONE);
            winter(late, 0, numbers(99, 40, 99, 99), NONE, NONE, NONE, NONE);
        }
    }

    private static void p15NoTales() {
        TallTales t = Check.inn("i3;t110");
        winter(t, 0, numbers(-1, -1), NONE, NONE);
        winter(t, 2, numbers(-1, -1, -1, -1, -1, -1), NONE, NONE, NONE, NONE, NONE, NONE);
        winter(t, 1, numbers(-1, -1), 0, NONE);
    }

    private static void p15BehindSixtyNights() {
        TallTales t = new TallTales();
        Ways.full(t);
        Check.due("15 no NIGHT can go by", t.night(), -4);
        // a winter is told of all the same: the GROWN one is 310 TALL
        winter(t, 1, numbers(309, 309, 319), 1, NONE, 1);
        winter(t, 1, numbers(310, 309, 319), NONE, 1, NONE);
        winter(t, 0, numbers(10, 10, 10), 0, 3, NONE);
    }
}
