/** Promises 16 and 17, sentence by sentence: the bounds that each names, and what is refused. */
public final class TradeBoundsTest {
    private static final int NONE = TallTales.NONE, MIN = Integer.MIN_VALUE, MAX = Integer.MAX_VALUE;
    private static final int NONE_DOES = 1 << 10;

    public static void main(String[] args) {
        p16Refused();
        p16ItIsOnlyTold();
        p16TallerThanEach();
        p16OfAllOthers();
        p16ThatMayBeTold();
        p16NothingAgainstThem();
        p16MostAndLeast();
        p17Unknown();
        p17OutsideSort();
        p17Faults();
        p17NotAllCellsAreThere();
        p17AllGuestsEachOnce();
        p17ItIsOnlyTold();
        p17NoneDoes();
        p17JustAsTall();
        p17AsOftenAsBefore();
        p17OfItsOwn();
        p17TheOthersAsItWas();
        p17WhetherItMight();
        p17SixtyNights();
        p17AllTenTales();
        Check.end("TradeBoundsTest");
    }

    // "UNKNOWN: TALES; STATE: they are one GUEST's."

    private static void p16Refused() {
        for (int x : new int[] {MIN, NONE, -1, 4, 9, 10, MAX}) {
            for (int y : new int[] {-1, 0, 3, 4}) {
                Seen.leavesAll("16 UNKNOWN: TALE " + x, Ways::lived, t -> t.trade(x, y), -1);
                Seen.leavesAll("16 UNKNOWN: for TALE " + x, Ways::lived, t -> t.trade(y, x), -1);
            }
            Seen.leavesAll("16 UNKNOWN: one TALE twice", Ways::lived, t -> t.trade(x, x), -1);
        }
        Seen.leavesAll("16 UNKNOWN without an inn", Ways::nothing, t -> t.trade(0, 1), -1);
        for (int x = 0; x < 4; x++) {
            int of = x;
            Seen.leavesAll("16 STATE: with itself", Ways::lived, t -> t.trade(of, of), -3);
        }
        Seen.leavesAll("16 STATE: one GUEST's", Ways::lived, t -> t.trade(0, 3), -3);
        Seen.leavesAll("16 STATE: one GUEST's", Ways::lived, t -> t.trade(3, 0), -3);
    }

    // "(each becomes the other one's; it is only told)"

    private static void p16ItIsOnlyTold() {
        // 99 against 902 of what MAY be told: none is strong of 0, 902 is of 2
        Seen.leavesAll("16 99 for 902", Ways::lived, t -> t.trade(3, 2), 101);
        Seen.leavesAll("16 902 for 99", Ways::lived, t -> t.trade(2, 3), 99);
        Seen.leavesAll("16 99 for one that MAY not be told", Ways::lived, t -> t.trade(3, 1), 100);
        Seen.leavesAll("16 what MAY not be told for 902", Ways::lived, t -> t.trade(1, 2), 101);
    }

    private static void trade(String text, int x, int y, int then, int now) {
        TallTales t = Check.inn(text);
        Check.due("16 " + text + " " + x + " for " + y, t.trade(x, y), 100 + then - now);
    }

    // "are taller TONIGHT than each TALE of all others"

    private static void p16TallerThanEach() {
        // 30 for 5: 10 5 against 30 29, and it was strong against 29 alone
        trade("i2;t030;t010;t105;t129", 0, 2, 0, 1);
        trade("i2;t030;t010;t105;t130", 1, 2, 0, 0);
        // 10 for 29: 30 29 against 10 5
        trade("i2;t030;t010;t105;t129", 1, 3, 2, 1);
        // as TALL as one of the others is not taller: 30 against 30, before and after
        trade("i2;t030;t010;t130;t129", 1, 3, 0, 0);
        trade("i2;t030;t010;t130;t110", 1, 2, 2, 0);
        trade("i2;t030;t010;t130;t110", 0, 2, 0, 0);
        trade("i2;t030;t010;t130;t111", 1, 2, 2, 0);
        trade("i2;t030;t010;t130;t109", 0, 3, 0, 0);
        // 11 against the 10 that goes for 30, 10 against it
        trade("i2;t030;t011;t130;t105;t010", 4, 2, 3, 0);
        trade("i2;t030;t010;t130;t105;t010", 4, 2, 2, 0);
    }

    private static void p16OfAllOthers() {
        // 40 of a third GUEST stands against 30 for 20
        trade("i3;t020;t130;t240", 0, 1, 0, 0);
        trade("i3;t020;t130;t229", 0, 1, 1, 0);
        trade("i3;t020;t130;t230", 0, 1, 0, 0);
        trade("i5;t020;t130;t220;t320;t430", 0, 1, 0, 0);
        trade("i5;t020;t130;t220;t320;t429", 0, 1, 1, 0);
        trade("i5;t419;t020;t130;t220;t329", 0, 2, 1, 0);
    }

    // "that MAY be told"

    private static void p16ThatMayBeTold() {
        TallTales t = Check.inn("i2;t050;t030;t140;t120;w101");
        Check.due("16 30 for 20, all may be told", t.trade(1, 3), 100);
        Check.night(t, 0, 4);
        // 30 against 40 20; with 40 for 30: 40 against 30 20
        Check.due("16 30 for 40", t.trade(1, 2), 101);
        // 50 MAY not be told: it is none of the strong ones, 40 is, and 30
        Check.due("16 50 for 40", t.trade(0, 2), 102);
        // what MAY not be told is no gain, and nothing against one
        Check.due("16 30 for 901", t.trade(1, 4), 100);
        Check.due("16 40 for 50", t.trade(2, 0), 99);
        t.memory(0);
        Check.due("16 with a MEMORY of 0 50 MAY be told: 50 30 against 40 20", t.trade(0, 2), 99);
        Check.due("16 30 for 40 then", t.trade(1, 2), 101);
        // a GROWN one not on the night after, then taller
        TallTales grown = Check.inn("i2;g025;t005;t130");
        Check.due("16 5 for 30: 25 30 against 5", grown.trade(1, 2), 102);
        Check.night(grown, 0, NONE);
        Check.due("16 5 for 30: 30 against 5", grown.trade(1, 2), 101);
        grown.night();
        // 35 is strong now
        Check.due("16 5 for 30: 35 30 against 5", grown.trade(1, 2), 101);
        Check.due("16 35 for 30: 30 5 against 35", grown.trade(0, 2), 99);
    }

    private static void p16NothingAgainstThem() {
        TallTales t = Check.inn("i3;t001;t050;t160");
        Check.due("16 1 for 60: 60 50 against 1", t.trade(0, 2), 102);
        Check.night(t, NONE, 2);
        // others have none that MAY be told: all are strong, 1 too
        Check.due("16 1 for one that MAY not: 50 against 1", t.trade(0, 2), 99);
        Check.due("16 50 for one that MAY not: 1 against 50", t.trade(1, 2), 98);
        Check.due("16 what MAY not for 1: 1 against 50", t.trade(2, 0), 100);
        Check.due("16 what MAY not for 50: 50 against 1", t.trade(2, 1), 101);
        Check.night(t, 0, NONE);
        Check.night(t, 1, NONE);
        Check.due("16 none MAY be told", t.trade(0, 2), 100);
        Check.due("16 none MAY be told", t.trade(2, 1), 100);
    }

    private static void p16MostAndLeast() {
        String nine = "i2;t011;t012;t013;t014;t015;t016;t017;t018;t019";
        trade(nine + ";t120", 0, 9, 9, 0);
        trade(nine + ";t120", 1, 9, 8, 0);
        trade(nine + ";t120", 8, 9, 1, 0);
        trade(nine + ";t110", 8, 9, 0, 9);
        trade(nine + ";t110", 7, 9, 1, 9);
        trade(nine + ";t110", 0, 9, 8, 9);
        trade(nine + ";t110", 9, 8, 1, 0);
        trade(nine + ";t110", 9, 7, 0, 0);
    }

    // "UNKNOWN: NIGHT, GUEST, SHEET; OUTSIDE: sort; FAULTS CAST, NULL, INDEX; OUTSIDE: they are not all GUESTS, each
    // once." What comes later in the line is wrong in these calls, too.

    private static void p17Unknown() {
        for (int night : new int[] {MIN, -1, 1, 2, 59, 60, MAX}) {
            Seen.leavesAll("17 UNKNOWN: NIGHT " + night, Ways::lived, t -> t.toldBy(night, -1, -1, 3, -1), -1, 0);
            Seen.leavesAll("17 UNKNOWN: NIGHT alone " + night, Ways::lived, t -> t.toldBy(night, 0, 1, 1, 0), -1, 0);
        }
        for (int g : new int[] {MIN, -1, 3, 4, 5, MAX}) {
            Seen.leavesAll("17 UNKNOWN: GUEST " + g, Ways::lived, t -> t.toldBy(0, g, -1, 3, -1), -1, 0);
            Seen.leavesAll("17 UNKNOWN: GUEST alone " + g, Ways::lived, t -> t.toldBy(0, g, 1, 1, 0), -1, 0);
        }
        for (int k : new int[] {MIN, -1, 4, 5, MAX}) {
            Seen.leavesAll("17 UNKNOWN: SHEET " + k, Ways::lived, t -> t.toldBy(0, 0, k, 3, -1), -1, 0);
        }
        Seen.leavesAll("17 UNKNOWN: no NIGHT is over", Ways::bare, t -> t.toldBy(0, 0, 3, 3, -1), -1, 0);
        Seen.leavesAll("17 UNKNOWN: NIGHT 60 of 60", Ways::full, t -> t.toldBy(60, 0, 3, 3, -1), -1, 0);
        Seen.leavesAll("17 UNKNOWN without an inn", Ways::nothing, t -> t.toldBy(0, 0, 0, 0, 0), -1, 0);
    }

    private static void p17OutsideSort() {
        for (int sort : new int[] {MIN, -1, 3, MAX}) {
            for (int k = 0; k < 4; k++) {
                int of = k;
                Seen.leavesAll("17 OUTSIDE: sort " + sort, Ways::lived, t -> t.toldBy(0, 0, of, sort, -1), -2, 0);
            }
        }
        for (int k = 0; k < 4; k++) {
            for (int sort = 0; sort < 3; sort++) {
                TallTales t = Check.inn("i2;t001");
                t.night();
                Check.row(t, k, sort, 1, 0);
                Check.due("17 each SHEET and SORT is taken", t, t.toldBy(0, 1, k, sort, 0), 0, 0);
            }
        }
    }

    private static void p17Faults() {
        for (int sort = 0; sort < 3; sort++) {
            int of = sort;
            Seen.leavesAll("17 nothing: NULL", Ways::lived, t -> t.toldBy(0, 0, 3, of, -1), -11, 1);
            if (sort != 0) Seen.leavesAll("17 CAST from bytes", Ways::lived, t -> t.toldBy(0, 0, 0, of, -1), -12, 2);
            if (sort != 1) Seen.leavesAll("17 CAST from shorts", Ways::lived, t -> t.toldBy(0, 0, 1, of, -1), -12, 2);
            if (sort != 2) Seen.leavesAll("17 CAST from ints", Ways::lived, t -> t.toldBy(0, 0, 2, of, -1), -12, 2);
        }
    }

    // "by such cells (as many as there are GUESTS)"

    private static void p17NotAllCellsAreThere() {
        for (int i : new int[] {MIN, -1, 1, 2, 3, 4, 60, MAX}) {
            Seen.leavesAll("17 INDEX " + i + " of 3", Ways::lived, t -> t.toldBy(0, 0, 1, 1, i), -13, 3);
        }
        for (int i : new int[] {-1, 58, 59, 60, 61, MAX - 1}) {
            Seen.leavesAll("17 INDEX " + i + " of 60", Ways::lived, t -> t.toldBy(0, 0, 2, 2, i), -13, 3);
        }
        Seen.leavesAll("17 the last three: 0 0 -1 are no GUESTS", Ways::lived, t -> t.toldBy(0, 0, 2, 2, 57), -2, 0);
        for (int guests = 2; guests <= 5; guests++) {
            TallTales t = Check.inn("i" + guests + ";t001");
            t.night();
            t.sheet(1, 0, guests - 1);
            Check.due("17 a cell too few", t, t.toldBy(0, 0, 1, 0, 0), -13, 3);
            t.sheet(1, 0, guests + 1);
            for (int g = 0; g <= guests; g++) t.put(1, g, g);
            Check.due("17 one more is no matter", t, t.toldBy(0, 0, 1, 0, 0), 1 | NONE_DOES, 0);
            Check.due("17 from 1 on", t, t.toldBy(0, 0, 1, 0, 1), -2, 0);
            Check.due("17 from 2 on", t, t.toldBy(0, 0, 1, 0, 2), -13, 3);
        }
    }

    // "OUTSIDE: they are not all GUESTS, each once"

    private static void p17AllGuestsEachOnce() {
        Seen.leavesAll("17 OUTSIDE: no GUESTS", Ways::lived, t -> t.toldBy(0, 0, 1, 1, 0), -2, 0);
        for (int guests = 2; guests <= 5; guests++) {
            for (int p = 0; p < guests; p++) {
                for (int wrong : new int[] {MIN, -32, -1, guests, 31, 32, 33, MAX}) oneWrong(guests, p, wrong);
                oneWrong(guests, p, (p + 1) % guests);
                oneWrong(guests, p, p == 0 ? guests - 1 : 0);
            }
        }
    }

    private static void oneWrong(int guests, int p, int wrong) {
        TallTales t = Check.inn("i" + guests + ";t001");
        t.night();
        t.sheet(1, 2, guests);
        for (int g = 0; g < guests; g++) t.put(1, g, g);
        Check.due("17 all, each once", t, t.toldBy(0, 0, 1, 2, 0), 1 | NONE_DOES, 0);
        t.put(1, p, wrong);
        Check.due("17 OUTSIDE: " + wrong + " in place " + p + " of " + guests, t, t.toldBy(0, 0, 1, 2, 0), -2, 0);
    }

    private static void p17ItIsOnlyTold() {
        for (int g = 0; g < 3; g++) {
            int of = g;
            // 50, 10, none: they lay 0 1 2, and so they would if 1 told none
            int[] due = {1 | 1 << 3, 1 << 1 | NONE_DOES, NONE_DOES};
            Seen.leavesAll("17 it is only told", t -> {
                Ways.lived(t);
                for (int c = 0; c < 3; c++) t.put(1, c, c);
            }, t -> t.toldBy(0, of, 1, 1, 0), due[g], 0);
        }
    }

    private static void told(TallTales t, int night, int[] row, int... due) {
        Check.row(t, 1, 2, row);
        for (int g = 0; g < due.length; g++) {
            Check.due("17 toldBy(" + night + ", " + g + ")", t, t.toldBy(night, g, 1, 2, 0), due[g], 0);
        }
    }

    private static int[] row(int... all) {
        return all;
    }

    // "bit 10: none does, too"

    private static void p17NoneDoes() {
        TallTales t = Check.inn("i3;t001;t101");
        t.night();
        told(t, 0, row(0, 1, 2), 1 | NONE_DOES, NONE_DOES, NONE_DOES);
        told(t, 0, row(1, 0, 2), 0, 2, 0);
        told(t, 0, row(0, 2, 1), 0, 0, 0);
        told(t, 0, row(2, 0, 1), 0, 0, 0);
        Check.night(t, NONE, 1, NONE);
        told(t, 1, row(1, 0, 2), NONE_DOES, 2, NONE_DOES);
        told(t, 1, row(0, 1, 2), 1, NONE_DOES, 0);
        Check.night(t, 0, NONE, NONE);
        told(t, 2, row(0, 1, 2), 1 | NONE_DOES, 2 | NONE_DOES, NONE_DOES);
        told(t, 2, row(1, 0, 2), 0, 0, 0);
        told(t, 2, row(0, 2, 1), 0, 0, 0);
    }

    // "of like ones the GUEST of the least number"

    private static void p17JustAsTall() {
        TallTales t = Check.inn("i3;t049;t050;t051;t150;t249;t250;t251");
        Check.night(t, NONE, 3, NONE);
        told(t, 0, row(0, 1, 2), 2 | 4, NONE_DOES, 0);
        told(t, 0, row(1, 0, 2), 1 | NONE_DOES, 8, NONE_DOES);
        told(t, 0, row(1, 2, 0), 0, 0, 16 | 32);
        told(t, 0, row(2, 1, 0), 0, 0, 64);
        t.memory(0);
        Check.night(t, 1, NONE, 5);
        // 50 of 0 and 50 of 2: only a 50 of 1 lies between them
        told(t, 1, row(0, 1, 2), 0, 8, NONE_DOES);
        told(t, 1, row(0, 2, 1), 2 | 4, NONE_DOES, 16 | 32);
        told(t, 1, row(2, 0, 1), 1 | NONE_DOES, 0, 64);
        told(t, 1, row(2, 1, 0), 0, 0, 0);
        told(t, 1, row(1, 0, 2), 0, 0, 0);
    }

    // "those that as TALL as they were in that NIGHT (told as often as before it)"

    private static void p17AsOftenAsBefore() {
        TallTales t = Check.inn("i2;g010;t120;t119;t109");
        t.memory(0);
        for (int n = 0; n < 3; n++) {
            Check.night(t, 0, 1);
            Check.night(t, NONE, 2);
        }
        // in night 0 it was 10 TALL, in 1 20, in 2 20, in 3 30
        told(t, 0, row(1, 0), 1 | NONE_DOES, 2 | 4);
        told(t, 0, row(0, 1), 0, 8 | NONE_DOES);
        told(t, 1, row(0, 1), 1, NONE_DOES);
        told(t, 1, row(1, 0), NONE_DOES, 2 | 4 | 8);
        told(t, 2, row(0, 1), 1, 2 | 4 | 8 | NONE_DOES);
        told(t, 3, row(0, 1), 1, NONE_DOES);
        // told in 1 and 3 alone: 50 TALL in 5 and 6, just as TALL as tale 0 and TALLER than tale 1
        TallTales late = Check.inn("i2;t050;t049;g130");
        late.memory(0);
        for (int n = 0; n < 5; n++) Check.night(late, NONE, n % 2 == 1 ? 2 : NONE);
        Check.night(late, 0, NONE);
        Check.night(late, 1, NONE);
        told(late, 5, row(0, 1), 1 | 2 | NONE_DOES, 4 | NONE_DOES);
        told(late, 5, row(1, 0), 0, 0);
        told(late, 6, row(0, 1), 1 | 2 | NONE_DOES, NONE_DOES);
        told(late, 6, row(1, 0), 0, 4);
        Check.due("17 it may be told", late.choose(1, 2), NONE);
        Check.night(late, NONE, 2);
        Check.night(late, 0, NONE);
        // what came behind a night is no matter in it, what is undone is not either
        told(late, 6, row(1, 0), 0, 4);
        late.undo(2);
        told(late, 5, row(0, 1), 1 | 2 | NONE_DOES, 4 | NONE_DOES);
        told(late, 6, row(1, 0), 0, 4);
        // a TRUE one as TALL as ever, told or not
        TallTales once = Check.inn("i2;w001;t199");
        Check.night(once, 0, 1);
        Check.night(once, NONE, NONE);
        told(once, 0, row(0, 1), 1, 2 | NONE_DOES);
        told(once, 1, row(0, 1), 1 | NONE_DOES, NONE_DOES);
    }

    // "of its own (as whose they are now)"

    private static void p17OfItsOwn() {
        TallTales t = Check.inn("i3;t099;t150;t251");
        t.night();
        told(t, 0, row(1, 0, 2), 0, 2, 0);
        told(t, 0, row(2, 0, 1), 0, 0, 4);
        told(t, 0, row(0, 1, 2), 1 | NONE_DOES, NONE_DOES, NONE_DOES);
        // a trade is only told
        Check.due("17 a trade", t.trade(0, 1), 99);
        told(t, 0, row(0, 1, 2), 1 | NONE_DOES, NONE_DOES, NONE_DOES);
    }

    // "if what the others told, and how TALL that was, is as it was"

    private static void p17TheOthersAsItWas() {
        TallTales t = Check.inn("i2;t025;g110;t014");
        Check.night(t, NONE, 1);
        Check.night(t, NONE, NONE);
        Check.night(t, NONE, 1);
        Check.night(t, NONE, NONE);
        Check.night(t, NONE, 1);
        // it was 10, 20, 30 TALL in nights 0, 2, 4
        told(t, 0, row(0, 1), 1 | 4, NONE_DOES);
        told(t, 2, row(0, 1), 1, NONE_DOES);
        told(t, 4, row(0, 1), 0, NONE_DOES);
        told(t, 4, row(1, 0), 1 | 4 | NONE_DOES, 2);
        // what is CHOSEN tonight is no matter
        t.choose(0, 0);
        told(t, 4, row(0, 1), 0, NONE_DOES);
        told(t, 3, row(0, 1), 1 | 4 | NONE_DOES, NONE_DOES);
    }

    /** The document asks how TALL it was alone, not whether it might have been told. */
    private static void p17WhetherItMight() {
        TallTales t = Check.inn("i2;t010;g020;w001;t105");
        Check.night(t, 0, 3);
        Check.night(t, 1, NONE);
        Check.night(t, 2, NONE);
        t.night();
        told(t, 1, row(0, 1), 1 | 2 | 4 | NONE_DOES, 8 | NONE_DOES);
        told(t, 2, row(0, 1), 1 | 2 | 4 | NONE_DOES, 8 | NONE_DOES);
        told(t, 3, row(1, 0), 0, 8);
    }

    private static void p17SixtyNights() {
        TallTales t = new TallTales();
        Ways.full(t);
        // tale 1 was 300 TALL in night 58, and would have been 310 in night 59
        told(t, 59, row(0, 1, 2), 1 | 8 | NONE_DOES, NONE_DOES, NONE_DOES);
        told(t, 59, row(1, 0, 2), 0, 2, 0);
        told(t, 58, row(1, 0, 2), 1 | 8 | NONE_DOES, 2, NONE_DOES);
        told(t, 58, row(2, 1, 0), 0, 0, 4);
        told(t, 58, row(2, 0, 1), 0, 0, 0);
        Check.due("17 UNKNOWN: NIGHT 60", t, t.toldBy(60, 0, 1, 2, 0), -1, 0);
        Check.due("17 undone", t.undo(1), 59);
        Check.due("17 UNKNOWN: NIGHT 59 then", t, t.toldBy(59, 0, 1, 2, 0), -1, 0);
        Check.due("17 NIGHT 58 still", t, t.toldBy(58, 0, 1, 2, 0), 0, 0);
    }

    // "as a set" of TALES' numbers, bits 0 to 9

    private static void p17AllTenTales() {
        TallTales t = Check.inn("i2;t101;t102;t103;t104;t105;t106;t107;t108;t109;w101");
        t.night();
        told(t, 0, row(1, 0), 0, 1023);
        told(t, 0, row(0, 1), NONE_DOES, NONE_DOES);
        TallTales own = Check.inn("i2;t001;t002;t003;t004;t005;t006;t007;t008;t009;w001");
        own.night();
        told(own, 0, row(0, 1), 1023 | NONE_DOES, NONE_DOES);
        told(own, 0, row(1, 0), 0, 0);
    }
}
