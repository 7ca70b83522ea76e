/** Promises 23 to 26 and 28, sentence by sentence: the bounds that each names, and what is refused. */
public final class TellBoundsTest {
    private static final int MIN = Integer.MIN_VALUE, MAX = Integer.MAX_VALUE;
    private static final String ALL = "i5;t001;t199;g201;g399;w401;w099;t150;g250;w350;t405";

    public static void main(String[] args) {
        p23Unknown();
        p23Tells();
        p23TheHeightAlone();
        p24Unknown();
        p24OwnNumbers();
        p25Refused();
        p25EachIs();
        p26AtFirst();
        p26AsTheyBegin();
        p26Wraps();
        p26Stays();
        inThe512thCall();
        p28Outside();
        p28AtFirst();
        p28MostAndLeast();
        Check.end("TellBoundsTest");
    }

    private static int after(int trace, int... bodies) {
        int t = trace;
        for (int body : bodies) t = 31 * t + body;
        return t;
    }

    // "TELLING of a TALE. UNKNOWN."

    private static void p23Unknown() {
        for (int x : new int[] {MIN, -9, -1, 4, 9, 10, MAX}) {
            Seen.leavesAll("23 UNKNOWN " + x, Ways::lived, t -> t.tell(x), -1);
        }
        for (int x = -1; x <= 1; x++) {
            int of = x;
            Seen.leavesAll("23 UNKNOWN without an inn " + x, Ways::nothing, t -> t.tell(of), -1);
        }
        TallTales ten = Check.inn(ALL);
        Check.due("23 the last of ten", ten.tell(9), 5);
        Check.due("23 one beyond ten", ten.tell(10), -1);
    }

    // "TALE (1): HEIGHT. GROWN (2): what TALE's gives, and 100. TRUE (3): what GROWN's gives, and what TALE's gives"

    private static void p23Tells() {
        int[] due = {1, 99, 101, 199, 102, 298, 50, 150, 200, 5};
        TallTales t = Check.inn(ALL);
        int trace = 0;
        for (int x = 0; x < 10; x++) {
            Check.due("23 tell " + x, t.tell(x), due[x]);
            int kind = t.ofTale(x, 0);
            if (kind == 0) trace = after(trace, 1);
            if (kind == 1) trace = after(trace, 2, 1);
            if (kind == 2) trace = after(trace, 3, 2, 1, 1);
            Check.due("26 behind tell " + x, t.trace(), trace);
        }
    }

    private static void p23TheHeightAlone() {
        // however often it was told, whether it MAY be told or not
        TallTales t = Check.inn("i2;g010;t120;w130");
        Check.night(t, 0, 1);
        Check.night(t, -9, 2);
        Check.night(t, 0, -9);
        Check.due("23 GROWN twice, told last night", t.tell(0), 110);
        Check.due("23 told too lately", t.tell(1), 20);
        Check.due("23 TRUE, told once", t.tell(2), 160);
        Check.due("23 it is no NIGHT's telling", t.ofTale(0, 3), 2);
        Check.due("23 it is not CHOSEN", t.tonight(0, 0), -9);
        Check.due("23 no NIGHT goes by", t.many(2), 3);
    }

    // "How one SWEARS to it. UNKNOWN."

    private static void p24Unknown() {
        for (int x : new int[] {MIN, -9, -1, 4, 9, 10, MAX}) {
            Seen.leavesAll("24 UNKNOWN " + x, Ways::lived, t -> t.swear(x), -1);
        }
        for (int x = -1; x <= 1; x++) {
            int of = x;
            Seen.leavesAll("24 UNKNOWN without an inn " + x, Ways::nothing, t -> t.swear(of), -1);
        }
    }

    // "by a lent body (4): the own number of the one that is told, its place in its list; TRUE ones have their own (5): 30"

    private static void p24OwnNumbers() {
        TallTales t = Check.inn(ALL);
        int trace = 0;
        for (int x = 0; x < 10; x++) {
            boolean isTrue = t.ofTale(x, 0) == 2;
            Check.due("24 swear " + x, t.swear(x), isTrue ? 30 : x);
            trace = after(trace, isTrue ? 5 : 4);
            Check.due("26 behind swear " + x, t.trace(), trace);
        }
        Check.due("24 one beyond ten", t.swear(10), -1);
        Check.due("24 the last again", t.swear(9), 9);
    }

    // "A TALE, taken as one of a kind: 1. UNKNOWN; OUTSIDE; CAST: it is none"

    private static void p25Refused() {
        for (int x : new int[] {MIN, -9, -1, 4, 9, 10, MAX}) {
            for (int kind : new int[] {-1, 0, 2, 3}) {
                Seen.leavesAll("25 UNKNOWN " + x, Ways::lived, t -> t.as(x, kind), -1, 0);
            }
        }
        for (int kind : new int[] {MIN, -1, 3, MAX}) {
            for (int x = 0; x < 4; x++) {
                int of = x;
                Seen.leavesAll("25 OUTSIDE " + kind, Ways::lived, t -> t.as(of, kind), -2, 0);
            }
        }
        Seen.leavesAll("25 UNKNOWN without an inn", Ways::nothing, t -> t.as(0, 0), -1, 0);
    }

    // "(each is a TALE, too; a TRUE one is GROWN)"

    private static void p25EachIs() {
        // tales 0 and 3 are of kind 0, 1 is GROWN, 2 TRUE
        boolean[][] is = {{true, false, false}, {true, true, false}, {true, true, true}, {true, false, false}};
        for (int x = 0; x < 4; x++) {
            for (int kind = 0; kind < 3; kind++) {
                int of = x;
                int as = kind;
                boolean isOne = is[x][kind];
                String call = "25 " + x + " as " + kind;
                Seen.leavesAll(call, Ways::lived, t -> t.as(of, as), isOne ? 1 : -12, isOne ? 0 : 2);
            }
        }
        // by its kind, whosever it is and however tall
        TallTales t = Check.inn("i5;t402;g301;w003;t001;w401;g002");
        int[] kinds = {0, 1, 2, 0, 2, 1};
        for (int x = 0; x < 6; x++) {
            for (int kind = 0; kind < 3; kind++) {
                boolean isOne = kind <= kinds[x];
                Check.due("25 " + x + " as " + kind, t, t.as(x, kind), isOne ? 1 : -12, isOne ? 0 : 2);
            }
        }
    }

    // "(an int that wraps, 0 at first, becomes 31 times it and the number)"

    private static void p26AtFirst() {
        Seen.leavesAll("26 0 at first", Ways::nothing, t -> t.trace(), 0);
        Seen.leavesAll("26 0 with an inn", Ways::bare, t -> t.trace(), 0);
        Seen.leavesAll("26 it is only told", Ways::lived, t -> t.trace(), 2 * 31 + 1);
    }

    // "as they begin"

    private static void p26AsTheyBegin() {
        TallTales t = Check.inn("i2;t001;g001;w001");
        t.tell(2);
        Check.due("26 TRUE, GROWN, TALE, TALE", t.trace(), ((3 * 31 + 2) * 31 + 1) * 31 + 1);
        TallTales grown = Check.inn("i2;t001;g001;w001");
        grown.tell(1);
        Check.due("26 GROWN, TALE", grown.trace(), 2 * 31 + 1);
        grown.swear(2);
        Check.due("26 TRUE ones have their own", grown.trace(), (2 * 31 + 1) * 31 + 5);
        grown.swear(1);
        Check.due("26 a lent one", grown.trace(), ((2 * 31 + 1) * 31 + 5) * 31 + 4);
    }

    private static void p26Wraps() {
        // eight tellings are more than an int holds
        TallTales t = Check.inn("i2;t001;w001");
        long exact = 0;
        boolean below = false;
        boolean above = false;
        for (int n = 0; n < 40; n++) {
            t.tell(0);
            exact = (int) exact * 31L + 1;
            below |= (int) exact < 0;
            above |= exact > MAX;
            Check.due("26 behind " + (n + 1) + " tellings", t.trace(), (int) exact);
        }
        Check.holds("26 it came to wrap", below && above);
        TallTales seven = Check.inn("i2;t001");
        for (int n = 0; n < 7; n++) seven.tell(0);
        Check.due("26 the last that does not wrap", seven.trace(), 917087137);
        seven.tell(0);
        Check.due("26 the first that wraps", seven.trace(), (int) 28429701248L);
    }

    private static void p26Stays() {
        TallTales t = Check.inn("i2;t001;g101");
        t.tell(1);
        int trace = t.trace();
        Check.night(t, 0, 1);
        t.undo(1);
        t.lose(0);
        t.trade(0, 1);
        Check.due("26 nights leave it", t.trace(), trace);
        Check.due("26 another inn leaves it", Check.open(t, "i2;w001"), 1);
        Check.due("26 another inn leaves it", t.trace(), trace);
        Check.due("26 no inn by this text", Check.open(t, "i2;w00"), -106);
        Check.due("26 it leaves it", t.trace(), trace);
    }

    // "An object is used for at most 512 calls after it has been made"

    private static void inThe512thCall() {
        TallTales t = Check.inn("i2;t001");
        // that were 9 calls: 7 cells of a sheet, its row, the inn
        int trace = 0;
        for (int n = 9; n < 511; n++) {
            trace = after(trace, 1);
            Check.due("call " + (n + 1), t.tell(0), 1);
        }
        Check.due("call 512", t.trace(), trace);
    }

    // "How many: 0 GUESTS, 1 TALES, 2 NIGHTS that are over, 3 MEMORY (0 without an INN). OUTSIDE."

    private static void p28Outside() {
        for (int what : new int[] {MIN, -9, -1, 4, 5, MAX}) {
            Seen.leavesAll("28 OUTSIDE " + what, Ways::lived, t -> t.many(what), -2);
            Seen.leavesAll("28 OUTSIDE without an inn " + what, Ways::nothing, t -> t.many(what), -2);
        }
        int[] due = {3, 4, 1, 2};
        for (int what = 0; what < 4; what++) {
            int of = what;
            Seen.leavesAll("28 it is only told", Ways::lived, t -> t.many(of), due[what]);
        }
    }

    private static void p28AtFirst() {
        for (int what = 0; what < 4; what++) {
            int of = what;
            Seen.leavesAll("28 0 without an INN", Ways::nothing, t -> t.many(of), 0);
            Seen.leavesAll("28 0, no text was taken", t -> Check.open(t, "i2;t00"), t -> t.many(of), 0);
        }
    }

    private static void p28MostAndLeast() {
        TallTales t = Check.inn(ALL);
        Check.due("28 the most GUESTS", t.many(0), 5);
        Check.due("28 the most TALES", t.many(1), 10);
        Check.due("28 no NIGHT", t.many(2), 0);
        Check.due("28 MEMORY 99", t.many(3), 99);
        for (int night = 1; night <= 60; night++) {
            t.night();
            Check.due("28 NIGHTS", t.many(2), night);
        }
        t.night();
        Check.due("28 no more than 60", t.many(2), 60);
        t.undo(7);
        Check.due("28 some undone", t.many(2), 53);
        t.memory(0);
        Check.due("28 MEMORY 0", t.many(3), 0);
        Check.due("28 the least of all", Check.open(t, "i2;t001"), 1);
        int[] due = {2, 1, 0, 99};
        for (int what = 0; what < 4; what++) Check.due("28 the least of all " + what, t.many(what), due[what]);
    }
}
