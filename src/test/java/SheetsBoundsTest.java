/** Promises 18 to 22 and 27, sentence by sentence: the bounds that each names, and what is refused. */
public final class SheetsBoundsTest {
    private static final int MIN = Integer.MIN_VALUE, MAX = Integer.MAX_VALUE;
    private static final long LOST = TallTales.LOST;
    private static final int[] NO_SHEETS = {MIN, -9, -1, 4, 5, MAX};
    private static final int[] NO_SORTS = {MIN, -1, 3, MAX};

    public static void main(String[] args) {
        p18Refused();
        p18Lengths();
        p18ANewRow();
        p19Refused();
        p19Nothing();
        p20Refused();
        p20NotThere();
        p20CutToItsSort();
        p20OneCell();
        p21Lost();
        p21NotThere();
        p22Refused();
        p22NotThere();
        p22NoneTaken();
        p22AsTheyWere();
        p22All();
        p27AheadOfAny();
        p27TheLatestThatNamesOne();
        p27ThoseThatNameNone();
        Check.end("SheetsBoundsTest");
    }

    // "A SHEET gets a new row: 1. UNKNOWN; OUTSIDE: sort, n above 60; SIZE."

    private static void p18Refused() {
        for (int k : NO_SHEETS) {
            for (int n : new int[] {-1, 0, 61}) {
                Seen.leavesAll("18 UNKNOWN " + k, Ways::lived, t -> t.sheet(k, 3, n), -1, 0);
                Seen.leavesAll("18 UNKNOWN alone " + k, Ways::lived, t -> t.sheet(k, 0, n), -1, 0);
            }
        }
        for (int k = 0; k < 4; k++) {
            int of = k;
            for (int sort : NO_SORTS) {
                for (int n : new int[] {MIN, -1, 0, 60, 61}) {
                    Seen.leavesAll("18 OUTSIDE: sort " + sort, Ways::lived, t -> t.sheet(of, sort, n), -2, 0);
                }
            }
            for (int n : new int[] {61, 62, 127, 128, 65536, MAX}) {
                Seen.leavesAll("18 OUTSIDE: n " + n, Ways::lived, t -> t.sheet(of, of % 3, n), -2, 0);
            }
            for (int n : new int[] {MIN, -60, -1}) {
                Seen.leavesAll("18 SIZE " + n, Ways::lived, t -> t.sheet(of, of % 3, n), -14, 4);
            }
        }
    }

    // "a row of 0 .. 60 numbers"

    private static void p18Lengths() {
        for (int sort = 0; sort < 3; sort++) {
            for (int n : new int[] {0, 1, 2, 59, 60}) {
                TallTales t = new TallTales();
                for (int k = 0; k < 4; k++) {
                    Check.due("18 a row of " + n, t, t.sheet(k, sort, n), 1, 0);
                    if (n > 0) Check.due("18 the first", t, t.cell(k, 0, sort), 0, 0);
                    if (n > 0) Check.due("18 the last", t, t.cell(k, n - 1, sort), 0, 0);
                    Check.due("18 one beyond", t, t.cell(k, n, sort), LOST, 3);
                    Check.due("18 one ahead", t, t.cell(k, -1, sort), LOST, 3);
                    Check.due("18 another SORT", t, t.cell(k, 0, (sort + 1) % 3), LOST, 2);
                }
            }
        }
    }

    // "(0 at first)"

    private static void p18ANewRow() {
        TallTales t = new TallTales();
        for (int k = 0; k < 4; k++) {
            t.sheet(k, 2, 60);
            for (int i = 0; i < 60; i += 59) t.put(k, i, 7 + k);
        }
        Check.due("18 a shorter one", t, t.sheet(1, 0, 1), 1, 0);
        Check.due("18 0 at first", t, t.cell(1, 0, 0), 0, 0);
        Check.due("18 no more of the old one", t, t.cell(1, 59, 0), LOST, 3);
        Check.due("18 the old SORT", t, t.cell(1, 0, 2), LOST, 2);
        Check.due("18 as long again", t, t.sheet(1, 2, 60), 1, 0);
        for (int i = 0; i < 60; i++) Check.due("18 0 at first", t, t.cell(1, i, 2), 0, 0);
        for (int k : new int[] {0, 2, 3}) {
            Check.due("18 no other SHEET", t.cell(k, 0, 2), 7 + k);
            Check.due("18 no other SHEET", t.cell(k, 59, 2), 7 + k);
        }
        Check.due("18 a row of none", t, t.sheet(2, 2, 0), 1, 0);
        Check.due("18 it is not nothing", t, t.cell(2, 0, 2), LOST, 3);
        Check.due("18 after nothing", t.lose(0), 1);
        Check.due("18 after nothing", t, t.sheet(0, 2, 60), 1, 0);
        Check.due("18 0 at first", t.cell(0, 59, 2), 0);
    }

    // "A SHEET has nothing: 1; 0: it had nothing. UNKNOWN."

    private static void p19Refused() {
        for (int k : NO_SHEETS) Seen.leavesAll("19 UNKNOWN " + k, Ways::lived, t -> t.lose(k), -1);
        Seen.leavesAll("19 it had nothing", Ways::lived, t -> t.lose(3), 0);
        for (int k = 0; k < 4; k++) {
            int of = k;
            Seen.leavesAll("19 at first it had nothing", Ways::nothing, t -> t.lose(of), 0);
        }
    }

    private static void p19Nothing() {
        for (int k = 0; k < 4; k++) {
            for (int n : new int[] {0, 1, 60}) {
                TallTales t = new TallTales();
                t.sheet(k, 1, n);
                t.sheet((k + 1) % 4, 1, 1);
                Check.due("19 it had a row of " + n, t.lose(k), 1);
                for (int sort = 0; sort < 3; sort++) Check.due("19 it has nothing", t, t.cell(k, 0, sort), LOST, 1);
                Check.due("19 it has nothing", t, t.put(k, 0, 1), -11, 1);
                Check.due("19 it had nothing", t.lose(k), 0);
                Check.due("19 no other SHEET", t, t.cell((k + 1) % 4, 0, 1), 0, 0);
            }
        }
    }

    // "Cell i of a SHEET becomes v: 1. UNKNOWN; NULL; INDEX."

    private static void p20Refused() {
        for (int k : NO_SHEETS) {
            for (int i : new int[] {-1, 0}) Seen.leavesAll("20 UNKNOWN " + k, Ways::lived, t -> t.put(k, i, 5), -1, 0);
        }
        for (int i : new int[] {MIN, -1, 0, 1, 60, MAX}) {
            Seen.leavesAll("20 NULL, " + i, Ways::lived, t -> t.put(3, i, 5), -11, 1);
            Seen.leavesAll("20 NULL at first, " + i, Ways::nothing, t -> t.put(0, i, 5), -11, 1);
        }
    }

    private static void p20NotThere() {
        int[] lengths = {22, 3, 60};
        for (int k = 0; k < 3; k++) {
            for (int i : new int[] {MIN, -1, lengths[k], lengths[k] + 1, 61, MAX}) {
                int of = k;
                Seen.leavesAll("20 INDEX " + i + " of " + lengths[k], Ways::lived, t -> t.put(of, i, 5), -13, 3);
            }
        }
        Seen.leavesAll("20 INDEX of none", t -> t.sheet(1, 2, 0), t -> t.put(1, 0, 5), -13, 3);
        Seen.leavesAll("20 what it was already", Ways::lived, t -> t.put(2, 59, -1), 1, 0);
    }

    // "what comes to a cell of it is cut to its SORT (with its sign)"

    private static void p20CutToItsSort() {
        int[][] due = {
            {0, 0, 0}, {1, 1, 1}, {-1, -1, -1}, {127, 127, 127}, {128, -128, 128}, {129, -127, 129}, {-128, -128, -128},
            {-129, 127, -129}, {255, -1, 255}, {256, 0, 256}, {-255, 1, -255}, {-256, 0, -256}, {383, 127, 383},
            {32767, -1, 32767}, {32768, 0, -32768}, {32769, 1, -32767}, {-32768, 0, -32768}, {-32769, -1, 32767},
            {65535, -1, -1}, {65536, 0, 0}, {65537, 1, 1}, {-65536, 0, 0}, {0x12345680, -128, 0x5680}, {MAX, -1, -1},
            {MAX - 1, -2, -2}, {MIN, 0, 0}, {MIN + 1, 1, 1}};
        for (int k = 0; k < 4; k++) {
            for (int sort = 0; sort < 3; sort++) {
                TallTales t = new TallTales();
                t.sheet(k, sort, 2);
                for (int[] d : due) {
                    Check.due("20 put", t, t.put(k, 1, d[0]), 1, 0);
                    int is = sort == 2 ? d[0] : d[1 + sort];
                    Check.due("20 " + d[0] + " in SORT " + sort, t, t.cell(k, 1, sort), is, 0);
                }
            }
        }
    }

    private static void p20OneCell() {
        for (int sort = 0; sort < 3; sort++) {
            TallTales t = new TallTales();
            for (int k = 0; k < 4; k++) t.sheet(k, sort, 60);
            for (int i : new int[] {0, 1, 30, 59}) {
                Check.due("20 put", t, t.put(1, i, 100 + sort), 1, 0);
                for (int k = 0; k < 4; k++) {
                    for (int c : new int[] {0, 1, 30, 59}) {
                        Check.due("20 this cell alone", t.cell(k, c, sort), k == 1 && c <= i ? 100 + sort : 0);
                    }
                }
            }
        }
    }

    // "LOST: UNKNOWN, OUTSIDE: sort; FAULTS CAST (nothing is no CAST), NULL, INDEX."

    private static void p21Lost() {
        for (int k : NO_SHEETS) {
            for (int sort : new int[] {-1, 0, 2, 3}) {
                Seen.leavesAll("21 UNKNOWN " + k, Ways::lived, t -> t.cell(k, -1, sort), LOST, 0);
            }
        }
        for (int sort : NO_SORTS) {
            for (int k = 0; k < 4; k++) {
                int of = k;
                Seen.leavesAll("21 OUTSIDE " + sort, Ways::lived, t -> t.cell(of, 0, sort), LOST, 0);
                Seen.leavesAll("21 OUTSIDE ahead of INDEX " + sort, Ways::lived, t -> t.cell(of, -1, sort), LOST, 0);
            }
        }
        for (int sort = 0; sort < 3; sort++) {
            int of = sort;
            for (int i : new int[] {-1, 0, 60}) {
                Seen.leavesAll("21 nothing is no CAST", Ways::lived, t -> t.cell(3, i, of), LOST, 1);
                if (sort != 0) Seen.leavesAll("21 CAST from bytes", Ways::lived, t -> t.cell(0, i, of), LOST, 2);
                if (sort != 1) Seen.leavesAll("21 CAST from shorts", Ways::lived, t -> t.cell(1, i, of), LOST, 2);
                if (sort != 2) Seen.leavesAll("21 CAST from ints", Ways::lived, t -> t.cell(2, i, of), LOST, 2);
            }
        }
    }

    private static void p21NotThere() {
        int[] lengths = {22, 3, 60};
        int[] first = {'i', 7, 100000};
        int[] last = {'9', 9, -1};
        for (int k = 0; k < 3; k++) {
            int of = k;
            for (int i : new int[] {MIN, -1, lengths[k], lengths[k] + 1, 61, MAX}) {
                Seen.leavesAll("21 INDEX " + i + " of " + lengths[k], Ways::lived, t -> t.cell(of, i, of), LOST, 3);
            }
            Seen.leavesAll("21 the first", Ways::lived, t -> t.cell(of, 0, of), first[k], 0);
            Seen.leavesAll("21 the last", Ways::lived, t -> t.cell(of, lengths[of] - 1, of), last[k], 0);
        }
        Seen.leavesAll("21 INDEX of none", t -> t.sheet(1, 2, 0), t -> t.cell(1, 0, 2), LOST, 3);
        // the least int is no LOST
        TallTales t = new TallTales();
        t.sheet(0, 2, 1);
        t.put(0, 0, MIN);
        Check.due("21 the least int", t, t.cell(0, 0, 2), MIN, 0);
    }

    // "UNKNOWN; FAULTS NULL (the first, the other), CAST (unlike SORTS), INDEX: i, j, n below 0 or beyond."

    private static void p22Refused() {
        for (int k : NO_SHEETS) {
            for (int other : new int[] {-1, 0, 3, 4}) {
                Seen.leavesAll("22 UNKNOWN: the first " + k, Ways::lived, t -> t.copy(k, -1, other, -1, -1), -1, 0);
                Seen.leavesAll("22 UNKNOWN: the other " + k, Ways::lived, t -> t.copy(other, -1, k, -1, -1), -1, 0);
            }
        }
        Seen.leavesAll("22 NULL: both", Ways::lived, t -> t.copy(3, -1, 3, -1, -1), -11, 1);
        for (int k = 0; k < 3; k++) {
            int of = k;
            Seen.leavesAll("22 NULL: the first", Ways::lived, t -> t.copy(3, -1, of, -1, -1), -11, 1);
            Seen.leavesAll("22 NULL: the other", Ways::lived, t -> t.copy(of, -1, 3, -1, -1), -11, 1);
            Seen.leavesAll("22 NULL: the first, none taken", Ways::lived, t -> t.copy(3, 0, of, 0, 0), -11, 1);
            Seen.leavesAll("22 NULL: the other, none taken", Ways::lived, t -> t.copy(of, 0, 3, 0, 0), -11, 1);
            for (int other = 0; other < 3; other++) {
                int to = other;
                if (of == to) continue;
                Seen.leavesAll("22 CAST", Ways::lived, t -> t.copy(of, -1, to, -1, -1), -12, 2);
                Seen.leavesAll("22 CAST, none taken", Ways::lived, t -> t.copy(of, 0, to, 0, 0), -12, 2);
            }
        }
    }

    /** Sheet 0 has five shorts, sheet 1 three, sheet 2 sixty; sheet 3 nothing. */
    private static void rows(TallTales t) {
        Check.row(t, 0, 1, 1, 2, 3, 4, 5);
        Check.row(t, 1, 1, 6, 7, 8);
        Check.due("22 sheet", t.sheet(2, 1, 60), 1);
        Check.due("22 put", t.put(2, 59, 9), 1);
    }

    private static void p22NotThere() {
        int[][] calls = {
            {0, -1, 1, 0, 1}, {0, MIN, 1, 0, 1}, {0, 5, 1, 0, 1}, {0, 6, 1, 0, 1}, {0, MAX, 1, 0, 1}, {0, 3, 1, 0, 3},
            {0, 0, 1, -1, 1}, {0, 0, 1, MIN, 1}, {0, 0, 1, 3, 1}, {0, 0, 1, 4, 1}, {0, 0, 1, MAX, 1}, {0, 0, 1, 1, 3},
            {0, 0, 1, 0, -1}, {0, 0, 1, 0, MIN}, {0, 0, 1, 0, 4}, {1, 0, 0, 0, 4}, {0, 0, 1, 0, MAX}, {0, 1, 1, 1, MAX},
            {0, 0, 0, 0, 6}, {0, 1, 0, 0, 5}, {0, 0, 0, 1, 5}, {2, 0, 2, 0, 61}, {2, 1, 2, 0, 60}, {2, 0, 2, 1, 60},
            {2, 60, 2, 0, 1}, {2, 0, 2, 60, 1}, {0, -1, 1, -1, -1}, {0, 1, 0, 2, -1}, {2, 59, 1, 2, 2}};
        for (int[] c : calls) {
            String call = "22 INDEX copy(" + c[0] + ", " + c[1] + ", " + c[2] + ", " + c[3] + ", " + c[4] + ")";
            Seen.leavesAll(call, SheetsBoundsTest::rows, t -> t.copy(c[0], c[1], c[2], c[3], c[4]), -13, 3);
        }
    }

    // "INDEX (of cells from i on also where i is not 0 .. how many there are, if none of them is taken, too)"

    private static void p22NoneTaken() {
        int[][] beyond = {{-1, 0}, {6, 0}, {MIN, 0}, {MAX, 0}, {0, -1}, {0, 4}, {0, MIN}, {0, MAX}, {5, 4}, {6, 3}, {-1, 3}};
        for (int[] b : beyond) {
            String call = "22 INDEX from " + b[0] + " to " + b[1];
            Seen.leavesAll(call, SheetsBoundsTest::rows, t -> t.copy(0, b[0], 1, b[1], 0), -13, 3);
        }
        int[][] there = {{0, 0}, {5, 0}, {0, 3}, {5, 3}, {2, 1}};
        for (int[] b : there) {
            String call = "22 none from " + b[0] + " to " + b[1];
            Seen.leavesAll(call, SheetsBoundsTest::rows, t -> t.copy(0, b[0], 1, b[1], 0), 0, 0);
        }
        Seen.leavesAll("22 none at the very end", SheetsBoundsTest::rows, t -> t.copy(2, 60, 2, 60, 0), 0, 0);
        Seen.leavesAll("22 none beyond it", SheetsBoundsTest::rows, t -> t.copy(2, 61, 2, 60, 0), -13, 3);
        Seen.leavesAll("22 none of none", t -> t.sheet(0, 0, 0), t -> t.copy(0, 0, 0, 0, 0), 0, 0);
        Seen.leavesAll("22 one of none", t -> t.sheet(0, 0, 0), t -> t.copy(0, 0, 0, 0, 1), -13, 3);
        Seen.leavesAll("22 all to where they are", SheetsBoundsTest::rows, t -> t.copy(0, 0, 0, 0, 5), 5, 0);
    }

    // "go to another one (perhaps the same) from j on, as they were: n"

    private static void p22AsTheyWere() {
        for (int sort = 0; sort < 3; sort++) {
            for (int i = 0; i <= 5; i++) {
                for (int j = 0; j <= 5; j++) {
                    for (int n = 0; n <= 5 - Math.max(i, j); n++) copied(sort, i, j, n);
                }
            }
        }
    }

    private static void copied(int sort, int i, int j, int n) {
        TallTales t = new TallTales();
        Check.row(t, 0, sort, 11, 12, 13, 14, 15);
        Check.row(t, 1, sort, 21, 22, 23, 24, 25);
        String call = "copied " + n + " from " + i + " to " + j;
        Check.due("22 to another one: " + call, t, t.copy(0, i, 1, j, n), n, 0);
        for (int c = 0; c < 5; c++) {
            boolean came = c >= j && c < j + n;
            Check.due("22 there: " + call, t.cell(1, c, sort), came ? 11 + c - j + i : 21 + c);
            Check.due("22 here: " + call, t.cell(0, c, sort), 11 + c);
        }
        Check.due("22 to itself: " + call, t, t.copy(0, i, 0, j, n), n, 0);
        for (int c = 0; c < 5; c++) {
            boolean came = c >= j && c < j + n;
            Check.due("22 itself: " + call, t.cell(0, c, sort), came ? 11 + c - j + i : 11 + c);
        }
    }

    private static void p22All() {
        TallTales t = new TallTales();
        t.sheet(1, 2, 60);
        t.sheet(3, 2, 60);
        for (int i = 0; i < 60; i++) t.put(1, i, MIN + i);
        Check.due("22 sixty", t, t.copy(1, 0, 3, 0, 60), 60, 0);
        for (int i = 0; i < 60; i++) Check.due("22 cell " + i, t.cell(3, i, 2), MIN + i);
        Check.due("22 all but one, one on", t, t.copy(3, 0, 3, 1, 59), 59, 0);
        for (int i = 0; i < 60; i++) Check.due("22 one on: " + i, t.cell(3, i, 2), MIN + Math.max(i - 1, 0));
    }

    // "The FAULT of the latest call that names one: 0: it came to none, or was refused (0 ahead of any)."

    private static void p27AheadOfAny() {
        TallTales t = new TallTales();
        for (int n = 0; n < 3; n++) Check.due("27 ahead of any", t.fault(), 0);
        Check.due("27 one that names none is refused", t.night(), -3);
        Check.due("27 still ahead of any", t.fault(), 0);
    }

    private static void p27TheLatestThatNamesOne() {
        Seen.Call[] toNone = {
            t -> t.inn(0, 0, 0, 22), t -> t.winter(0, 1, 1, 0, 3, 0), t -> t.toldBy(0, 0, 2, 2, 0), t -> t.sheet(3, 0, 1),
            t -> t.put(1, 0, 0), t -> t.cell(1, 0, 1), t -> t.copy(1, 0, 1, 0, 0), t -> t.as(0, 0),
            t -> t.inn(0, 0, 0, 0), t -> t.inn(9, 0, 0, 0), t -> t.winter(9, 0, 0, 0, 0, 0), t -> t.toldBy(9, 0, 0, 0, 0),
            t -> t.sheet(0, 9, 0), t -> t.put(9, 0, 0), t -> t.cell(9, 0, 0), t -> t.copy(9, 0, 0, 0, 0), t -> t.as(9, 0)};
        Seen.Call[] toOne = {
            t -> t.cell(3, 0, 0), t -> t.as(0, 2), t -> t.put(1, 9, 0), t -> t.sheet(0, 0, -1), t -> t.inn(1, 1, 0, -1),
            t -> t.winter(0, 1, 1, 0, 9, 0), t -> t.toldBy(0, 0, 1, 1, 9), t -> t.copy(1, 0, 2, 0, 0)};
        int[] due = {1, 2, 3, 4, 4, 3, 3, 2};
        for (int n = 0; n < toOne.length; n++) {
            for (int m = 0; m < toNone.length; m++) {
                TallTales t = new TallTales();
                Ways.lived(t);
                for (int c = 0; c < 3; c++) t.put(2, c, c);
                toOne[n].of(t);
                Check.due("27 of call " + n, t.fault(), due[n]);
                Check.due("27 told again", t.fault(), due[n]);
                toNone[m].of(t);
                Check.due("27 0 behind call " + m, t.fault(), 0);
            }
            for (int m = 0; m < toOne.length; m++) {
                TallTales t = new TallTales();
                Ways.lived(t);
                toOne[m].of(t);
                toOne[n].of(t);
                Check.due("27 the latest of two", t.fault(), due[n]);
            }
        }
    }

    private static void p27ThoseThatNameNone() {
        Seen.Call[] taken = {
            t -> t.ofTale(0, 0), t -> t.memory(1), t -> t.choose(0, 3), t -> t.night(), t -> t.ofNight(0, 0, 0), t -> t.undo(1),
            t -> t.lay(0, 0), t -> t.tonight(0, 0), t -> t.answer(0, 0), t -> t.borrowed(0, 0), t -> t.bishop(0),
            t -> t.rests(-1), t -> t.trade(0, 1), t -> t.lose(1), t -> t.tell(0), t -> t.swear(0), t -> t.trace(),
            t -> t.many(0)};
        Seen.Call[] refused = {
            t -> t.ofTale(9, 0), t -> t.memory(-1), t -> t.choose(9, 3), t -> t.ofNight(9, 0, 0), t -> t.undo(9),
            t -> t.lay(9, 0), t -> t.tonight(9, 0), t -> t.answer(9, 0), t -> t.borrowed(9, 0), t -> t.bishop(-1),
            t -> t.rests(9), t -> t.trade(9, 1), t -> t.lose(9), t -> t.tell(9), t -> t.swear(9), t -> t.many(9)};
        for (int n = 0; n < taken.length + refused.length; n++) {
            TallTales t = new TallTales();
            Ways.lived(t);
            Check.due("27 INDEX", t, t.put(1, 3, 0), -13, 3);
            boolean isTaken = n < taken.length;
            long answer = isTaken ? taken[n].of(t) : refused[n - taken.length].of(t);
            Check.holds("27 call " + n + " is taken or not: " + answer, isTaken == (answer >= 0 || answer == -9));
            Check.due("27 as it was, behind call " + n, t.fault(), 3);
        }
    }
}
