/** Promise 15: winters against a row of numbers. */
public final class WinterTest {
    private static final int NONE = TallTales.NONE;

    public static void main(String[] args) {
        plainOnes();
        grownOnes();
        trueOnes();
        firstRows();
        laterWinters();
        cells();
        refused();
        manyTales();
        Check.end("WinterTest");
    }

    private static void winter(TallTales t, int g, int[] numbers, int most, int... row) {
        Check.row(t, 1, 2, numbers);
        int n = numbers.length;
        Check.due("15 the most of guest " + g, t, t.winter(g, 1, 2, 0, n, -1), most, 0);
        for (int q = 0; q < n; q++) Check.due("15 night " + q + " of guest " + g, t.winter(g, 1, 2, 0, n, q), row[q]);
    }

    private static int[] numbers(int... all) {
        return all;
    }

    private static void plainOnes() {
        TallTales t = Check.inn("i2;t050;t040;t199");
        winter(t, 0, numbers(10), 1, 0);
        // taller than the number is more than as tall
        winter(t, 0, numbers(49), 1, 0);
        winter(t, 0, numbers(50), 0, NONE);
        winter(t, 0, numbers(10, 10, 10), 2, 0, 1, NONE);
        winter(t, 0, numbers(39, 45), 2, 1, 0);
        winter(t, 0, numbers(45, 39), 2, 0, 1);
        winter(t, 0, numbers(45, 45, 45, 10), 2, 0, NONE, NONE, 1);
        winter(t, 0, numbers(60, 45, 60, 10), 2, NONE, 0, NONE, 1);
        t.memory(1);
        winter(t, 0, numbers(45, 45, 45, 45, 45, 45), 3, 0, NONE, 0, NONE, 0, NONE);
        winter(t, 0, numbers(10, 10, 10, 10, 10, 10), 6, 0, 1, 0, 1, 0, 1);
        t.memory(2);
        winter(t, 0, numbers(10, 10, 10, 10, 10, 10), 4, 0, 1, NONE, 0, 1, NONE);
        winter(t, 0, numbers(45, 45, 45, 45), 2, 0, NONE, NONE, 0);
        t.memory(0);
        winter(t, 0, numbers(45, 10, 45), 3, 0, 0, 0);
        winter(t, 0, numbers(-1, Integer.MIN_VALUE, Integer.MAX_VALUE), 2, 0, 0, NONE);
    }

    private static void grownOnes() {
        TallTales t = Check.inn("i2;g010;g120");
        winter(t, 0, numbers(9, 9, 9), 2, 0, NONE, 0);
        // it is told early so as to be taller late
        winter(t, 0, numbers(9, 9, 19), 2, 0, NONE, 0);
        winter(t, 0, numbers(9, 9, 20), 1, 0, NONE, NONE);
        winter(t, 0, numbers(9, 9, 15, 9, 29), 3, 0, NONE, 0, NONE, 0);
        winter(t, 0, numbers(9, 9, 19, 9, 30), 2, 0, NONE, 0, NONE, NONE);
        winter(t, 0, numbers(9, 5, 5, 25, 5, 25), 3, 0, NONE, 0, NONE, 0, NONE);
        winter(t, 0, numbers(9, 5, 5, 25, 35, 25), 3, 0, NONE, 0, NONE, NONE, 0);
        winter(t, 0, numbers(0, 0, 0, 0, 0, 0), 3, 0, NONE, 0, NONE, 0, NONE);
        winter(t, 1, numbers(19, 19), 1, 1, NONE);
    }

    private static void trueOnes() {
        TallTales t = Check.inn("i2;w001;g010;w199");
        winter(t, 0, numbers(900), 1, 0);
        winter(t, 0, numbers(901), 0, NONE);
        winter(t, 0, numbers(5, 900), 2, 1, 0);
        winter(t, 0, numbers(5, 5), 2, 0, 1);
        winter(t, 0, numbers(900, 900), 1, 0, NONE);
        winter(t, 1, numbers(998, 998), 1, 2, NONE);
        t.memory(0);
        winter(t, 0, numbers(900, 900), 1, 0, NONE);
    }

    private static void firstRows() {
        // several rows win as often: NONE counts as 10, more than any tale's number
        TallTales t = Check.inn("i2;t020;t030;t030");
        winter(t, 0, numbers(10, 10), 2, 0, 1);
        winter(t, 0, numbers(25, 25, 25, 25), 2, 1, 2, NONE, NONE);
        winter(t, 0, numbers(10, 25, 10), 3, 0, 1, 2);
        winter(t, 0, numbers(25, 10, 25), 3, 1, 0, 2);
        winter(t, 0, numbers(40, 10, 40), 1, NONE, 0, NONE);
        TallTales one = Check.inn("i2;t150;t020;t060");
        winter(one, 0, numbers(10, 55), 2, 1, 2);
        winter(one, 0, numbers(10, 10, 55), 2, 1, 2, NONE);
    }

    private static void laterWinters() {
        TallTales t = Check.inn("i2;t050;g040;w003;t199");
        t.memory(2);
        Check.night(t, 0, 3);
        Check.night(t, 1, NONE);
        Check.night(t, 2, NONE);
        // night 3: 0 was told in night 0, so it may be told; 1 not in night 2, so it may; 2 was told
        winter(t, 0, numbers(900, 49, 49), 2, NONE, 0, 1);
        winter(t, 0, numbers(10, 10, 10, 10), 3, 0, 1, NONE, 0);
        // what would grow is told on nights alone on which it is taller
        winter(t, 0, numbers(60, 60, 59, 60), 0, NONE, NONE, NONE, NONE);
    }

    private static void cells() {
        TallTales t = Check.inn("i2;t050;t190");
        for (int sort = 0; sort < 3; sort++) {
            Check.row(t, 2, sort, 1, 49, 50, -1, 200);
            Check.due("15 from 1 on", t, t.winter(0, 2, sort, 1, 1, -1), 1, 0);
            Check.due("15 from 2 on", t.winter(0, 2, sort, 2, 1, -1), 0);
            // 200 as a byte is -56
            Check.due("15 from 4 on", t.winter(0, 2, sort, 4, 1, -1), sort == 0 ? 1 : 0);
            Check.due("15 all", t.winter(0, 2, sort, 0, 5, 0), 0);
        }
    }

    private static void refused() {
        TallTales t = new TallTales();
        Check.due("15 without an inn", t, t.winter(0, 0, 0, 0, 1, 0), -1, 0);
        Check.due("15 inn", Check.open(t, "i3;t050;t190"), 2);
        Check.due("15 guest 3", t, t.winter(3, 1, 7, 0, 0, 0), -1, 0);
        Check.due("15 guest -1", t, t.winter(-1, 1, 7, 0, 0, 0), -1, 0);
        Check.due("15 sheet 4", t, t.winter(0, 4, 7, 0, 0, 0), -1, 0);
        Check.due("15 sheet -1", t, t.winter(0, -1, 7, 0, 0, 0), -1, 0);
        Check.due("15 sort 3", t, t.winter(0, 1, 3, 0, 0, 9), -2, 0);
        Check.due("15 sort -1", t, t.winter(0, 1, -1, 0, 0, 9), -2, 0);
        Check.due("15 nothing", t, t.winter(0, 1, 0, -1, -1, 9), -11, 1);
        Check.due("15 sheet", t.sheet(1, 1, 8), 1);
        Check.due("15 another sort", t, t.winter(0, 1, 0, -1, -1, 9), -12, 2);
        Check.due("15 size", t, t.winter(0, 1, 1, -1, -1, 9), -14, 4);
        Check.due("15 index -1", t, t.winter(0, 1, 1, -1, 0, 9), -13, 3);
        Check.due("15 index 9", t, t.winter(0, 1, 1, 9, 0, 9), -13, 3);
        Check.due("15 index beyond", t, t.winter(0, 1, 1, 3, 6, 9), -13, 3);
        Check.due("15 index ahead of how many", t, t.winter(0, 1, 1, 0, 9, 9), -13, 3);
        Check.due("15 index far", t, t.winter(0, 1, 1, Integer.MAX_VALUE, 1, 0), -13, 3);
        Check.due("15 none", t, t.winter(0, 1, 1, 0, 0, 9), -2, 0);
        Check.due("15 none at the end", t, t.winter(0, 1, 1, 8, 0, 0), -2, 0);
        Check.due("15 seven", t, t.winter(0, 1, 1, 0, 7, 9), -2, 0);
        Check.due("15 q -2", t, t.winter(0, 1, 1, 0, 6, -2), -1, 0);
        Check.due("15 q NONE", t, t.winter(0, 1, 1, 0, 6, NONE), -1, 0);
        Check.due("15 q 6", t, t.winter(0, 1, 1, 0, 6, 6), -1, 0);
        Check.due("15 q 5", t, t.winter(0, 1, 1, 0, 6, 5), NONE, 0);
        Check.due("15 a guest without tales", t, t.winter(2, 1, 1, 0, 6, -1), 0, 0);
        Check.due("15 it tells none", t, t.winter(2, 1, 1, 0, 6, 0), NONE, 0);
        Check.due("15 nothing is told", t.ofTale(0, 3), 0);
        Check.due("15 no night goes by", t.many(2), 0);
    }

    /** The dearest ones: all ten tales are one guest's. */
    private static void manyTales() {
        TallTales t = Check.inn("i2;g010;g010;g010;g010;g010;g010;g010;g010;g010;g010");
        winter(t, 0, numbers(0, 0, 0, 0, 0, 29), 6, 0, 1, 0, 1, 0, 1);
        winter(t, 0, numbers(0, 0, 0, 0, 0, 30), 5, 0, 1, 0, 1, 0, NONE);
        winter(t, 0, numbers(9, 9, 19, 19, 29, 29), 6, 0, 1, 0, 1, 0, 1);
        winter(t, 0, numbers(9, 9, 19, 19, 19, 29), 6, 0, 1, 0, 1, 0, 1);
        TallTales once = Check.inn("i2;w001;w002;w003;w004;w005;t006;t007;t008;t009;t010");
        winter(once, 0, numbers(0, 0, 0, 0, 0, 904), 6, 0, 1, 2, 3, 5, 4);
        winter(once, 0, numbers(0, 0, 0, 0, 904, 904), 5, 0, 1, 2, 3, 4, NONE);
    }
}
