/** Promises 18 to 22 and 27: sheets and their faults. */
public final class SheetsTest {
    private static final int MIN = Integer.MIN_VALUE, MAX = Integer.MAX_VALUE;

    public static void main(String[] args) {
        promise18();
        promise19();
        promise20();
        promise21();
        promise22();
        promise22Refused();
        promise27();
        Check.end("SheetsTest");
    }

    private static void promise18() {
        TallTales t = new TallTales();
        for (int k = 0; k < 4; k++) {
            Check.due("18 sheet", t, t.sheet(k, k % 3, 60), 1, 0);
            Check.due("18 the last cell", t.cell(k, 59, k % 3), 0);
            Check.due("18 no more", t.cell(k, 60, k % 3), TallTales.LOST);
        }
        Check.due("18 put", t.put(1, 3, 7), 1);
        Check.due("18 put", t.put(2, 59, 7), 1);
        Check.due("18 a new row", t, t.sheet(1, 1, 5), 1, 0);
        Check.due("18 of zeroes", t.cell(1, 3, 1), 0);
        Check.due("18 no other sheet", t.cell(2, 59, 2), 7);
        Check.due("18 a longer one", t.sheet(2, 2, 60), 1);
        Check.due("18 of zeroes", t.cell(2, 59, 2), 0);
        Check.due("18 of none", t, t.sheet(3, 0, 0), 1, 0);
        Check.due("18 no cell", t.cell(3, 0, 0), TallTales.LOST);
        Check.due("18 it had something", t.lose(3), 1);
        Check.due("18 put", t.put(1, 4, 9), 1);
        Check.due("18 sheet 4", t, t.sheet(4, 7, -1), -1, 0);
        Check.due("18 sheet -1", t, t.sheet(-1, 7, -1), -1, 0);
        Check.due("18 sort 3", t, t.sheet(1, 3, -1), -2, 0);
        Check.due("18 sort -1", t, t.sheet(1, -1, -1), -2, 0);
        Check.due("18 61", t, t.sheet(1, 1, 61), -2, 0);
        Check.due("18 far", t, t.sheet(1, 1, MAX), -2, 0);
        Check.due("18 size", t, t.sheet(1, 1, -1), -14, 4);
        Check.due("18 size, far", t, t.sheet(1, 0, MIN), -14, 4);
        Check.due("18 refused ones change nothing", t.cell(1, 4, 1), 9);
    }

    private static void promise19() {
        TallTales t = new TallTales();
        Check.due("19 nothing", t.lose(0), 0);
        t.sheet(0, 2, 3);
        Check.due("19 a row", t.lose(0), 1);
        Check.due("19 lost", t, t.cell(0, 0, 2), TallTales.LOST, 1);
        Check.due("19 lost already", t.lose(0), 0);
        Check.due("19 it names no fault", t.fault(), 1);
        Check.due("19 -1", t.lose(-1), -1);
        Check.due("19 4", t.lose(4), -1);
        Check.due("19 a refusal is no fault's, too", t.fault(), 1);
        t.sheet(0, 1, 3);
        Check.due("19 anew", t.cell(0, 2, 1), 0);
    }

    private static void promise20() {
        TallTales t = new TallTales();
        Check.due("20 nothing", t, t.put(0, -1, 5), -11, 1);
        t.sheet(0, 0, 2);
        t.sheet(1, 1, 2);
        t.sheet(2, 2, 2);
        int[][] due = {
            {127, 127, 127, 127}, {128, -128, 128, 128}, {255, -1, 255, 255}, {256, 0, 256, 256}, {-129, 127, -129, -129},
            {32767, -1, 32767, 32767}, {32768, 0, -32768, 32768}, {65536 + 5, 5, 5, 65541}, {-32769, -1, 32767, -32769},
            {MIN, 0, 0, MIN}, {MAX, -1, -1, MAX}, {-1, -1, -1, -1}};
        for (int[] d : due) {
            for (int k = 0; k < 3; k++) {
                Check.due("20 put", t, t.put(k, 1, d[0]), 1, 0);
                Check.due("20 " + d[0] + " in sort " + k, t.cell(k, 1, k), d[k + 1]);
                Check.due("20 the other cell", t.cell(k, 0, k), 0);
            }
        }
        Check.due("20 sheet -1", t, t.put(-1, 0, 0), -1, 0);
        Check.due("20 sheet 4", t, t.put(4, 0, 0), -1, 0);
        Check.due("20 index -1", t, t.put(0, -1, 0), -13, 3);
        Check.due("20 index 2", t, t.put(0, 2, 0), -13, 3);
        Check.due("20 index far", t, t.put(0, MAX, 0), -13, 3);
        Check.due("20 index far below", t, t.put(0, MIN, 0), -13, 3);
        Check.due("20 lost", t.lose(1), 1);
        Check.due("20 nothing again", t, t.put(1, 0, 5), -11, 1);
    }

    private static void promise21() {
        TallTales t = new TallTales();
        long lost = TallTales.LOST;
        Check.due("21 LOST", lost, Long.MIN_VALUE);
        Check.due("21 nothing", t, t.cell(0, -1, 0), lost, 1);
        t.sheet(0, 1, 3);
        t.put(0, 2, -5);
        Check.due("21 a cell", t, t.cell(0, 2, 1), -5, 0);
        Check.due("21 sheet 4", t, t.cell(4, 0, 7), lost, 0);
        Check.due("21 sheet -1", t, t.cell(-1, 0, 0), lost, 0);
        Check.due("21 sort 3", t, t.cell(0, 0, 3), lost, 0);
        Check.due("21 sort -1", t, t.cell(0, 0, -1), lost, 0);
        Check.due("21 a sort that is none, of nothing", t, t.cell(1, 0, 3), lost, 0);
        Check.due("21 bytes", t, t.cell(0, 9, 0), lost, 2);
        Check.due("21 ints", t, t.cell(0, 2, 2), lost, 2);
        Check.due("21 index 3", t, t.cell(0, 3, 1), lost, 3);
        Check.due("21 index -1", t, t.cell(0, -1, 1), lost, 3);
        Check.due("21 index far", t, t.cell(0, MAX, 1), lost, 3);
        t.sheet(2, 2, 1);
        t.put(2, 0, MIN);
        Check.due("21 the least int", t, t.cell(2, 0, 2), MIN, 0);
    }

    private static void cells(TallTales t, int k, int sort, int... due) {
        for (int i = 0; i < due.length; i++) Check.due("22 cell " + i + " of " + k, t.cell(k, i, sort), due[i]);
        Check.due("22 no more", t.cell(k, due.length, sort), TallTales.LOST);
    }

    private static void promise22() {
        TallTales t = new TallTales();
        for (int sort = 0; sort < 3; sort++) {
            Check.row(t, 0, sort, 1, 2, 3, 4, 5);
            Check.row(t, 1, sort, 6, 7, 8);
            Check.due("22 to another", t, t.copy(0, 3, 1, 1, 2), 2, 0);
            cells(t, 1, sort, 6, 4, 5);
            cells(t, 0, sort, 1, 2, 3, 4, 5);
            // as they were: not as they have become by copying
            Check.due("22 on itself, up", t, t.copy(0, 0, 0, 1, 4), 4, 0);
            cells(t, 0, sort, 1, 1, 2, 3, 4);
            Check.due("22 on itself, down", t, t.copy(0, 1, 0, 0, 4), 4, 0);
            cells(t, 0, sort, 1, 2, 3, 4, 4);
            Check.due("22 all of it", t, t.copy(0, 0, 0, 0, 5), 5, 0);
            Check.due("22 none", t, t.copy(0, 5, 1, 3, 0), 0, 0);
            Check.due("22 none in the middle", t, t.copy(0, 2, 0, 5, 0), 0, 0);
            cells(t, 0, sort, 1, 2, 3, 4, 4);
        }
        t.sheet(2, 2, 60);
        t.sheet(3, 2, 60);
        t.put(2, 59, 9);
        Check.due("22 sixty", t.copy(2, 0, 3, 0, 60), 60);
        Check.due("22 the last", t.cell(3, 59, 2), 9);
        Check.due("22 none at the very end", t, t.copy(3, 60, 3, 60, 0), 0, 0);
    }

    private static void promise22Refused() {
        TallTales t = new TallTales();
        Check.due("22 sheet 4", t, t.copy(4, 0, 0, 0, 0), -1, 0);
        Check.due("22 sheet -1", t, t.copy(-1, 0, 0, 0, 0), -1, 0);
        Check.due("22 other 4", t, t.copy(0, 0, 4, 0, 0), -1, 0);
        Check.due("22 other -1", t, t.copy(0, 0, -1, 0, 0), -1, 0);
        Check.due("22 nothing", t, t.copy(0, -1, 1, -1, -1), -11, 1);
        t.sheet(0, 1, 5);
        Check.due("22 the other has nothing", t, t.copy(0, -1, 1, -1, -1), -11, 1);
        Check.due("22 the first has nothing", t, t.copy(1, -1, 0, -1, -1), -11, 1);
        t.sheet(1, 2, 5);
        Check.due("22 unlike sorts", t, t.copy(0, -1, 1, -1, -1), -12, 2);
        Check.due("22 unlike sorts, the other way", t, t.copy(1, 0, 0, 0, 0), -12, 2);
        t.sheet(1, 1, 3);
        Check.due("22 i -1", t, t.copy(0, -1, 1, 0, 1), -13, 3);
        Check.due("22 j -1", t, t.copy(0, 0, 1, -1, 1), -13, 3);
        Check.due("22 n -1", t, t.copy(0, 0, 1, 0, -1), -13, 3);
        Check.due("22 n far below", t, t.copy(0, 0, 1, 0, MIN), -13, 3);
        Check.due("22 i beyond", t, t.copy(0, 4, 1, 0, 2), -13, 3);
        Check.due("22 j beyond", t, t.copy(0, 0, 1, 2, 2), -13, 3);
        Check.due("22 too many", t, t.copy(0, 0, 1, 0, 4), -13, 3);
        Check.due("22 far too many", t, t.copy(0, 1, 1, 1, MAX), -13, 3);
        Check.due("22 far beyond", t, t.copy(0, MAX, 1, MAX, 1), -13, 3);
        Check.due("22 none beyond i", t, t.copy(0, 6, 1, 0, 0), -13, 3);
        Check.due("22 none beyond j", t, t.copy(0, 0, 1, 4, 0), -13, 3);
        Check.due("22 none ahead of i", t, t.copy(0, -1, 1, 0, 0), -13, 3);
        cells(t, 0, 1, 0, 0, 0, 0, 0);
    }

    /** The fault of the latest call that names one: calls that name none leave it. */
    private static void promise27() {
        TallTales t = new TallTales();
        Check.due("27 ahead of any", t.fault(), 0);
        Check.due("27 size", t, t.sheet(0, 0, -1), -14, 4);
        Check.due("27 told again", t.fault(), 4);
        t.ofTale(0, 0);
        t.memory(5);
        t.choose(0, 0);
        t.night();
        t.ofNight(0, 0, 0);
        t.undo(9);
        t.lay(0, 0);
        t.tonight(0, 0);
        t.answer(0, 0);
        t.borrowed(0, 0);
        t.bishop(-1);
        t.rests(-1);
        t.trade(0, 0);
        t.lose(0);
        t.tell(0);
        t.swear(0);
        t.trace();
        t.many(9);
        Check.due("27 those name none", t.fault(), 4);
        Check.due("27 refused", t, t.as(0, 0), -1, 0);
        Check.due("27 null", t, t.put(0, 0, 0), -11, 1);
        Check.due("27 none", t, t.sheet(0, 0, 1), 1, 0);
        Check.due("27 index", t, t.put(0, 1, 0), -13, 3);
        Check.due("27 refused", t, t.copy(0, 0, 9, 0, 0), -1, 0);
        Check.due("27 cast", t, t.cell(0, 0, 1), TallTales.LOST, 2);
        Check.due("27 a text that is none is no fault", t, t.inn(0, 0, 0, 1), -100, 0);
        Check.due("27 index", t, t.inn(0, 0, 0, 2), -13, 3);
        Check.due("27 refused", t, t.winter(0, 0, 0, 0, 1, 0), -1, 0);
        t.put(0, 9, 9);
        Check.due("27 refused", t, t.toldBy(0, 0, 0, 0, 0), -1, 0);
    }
}
