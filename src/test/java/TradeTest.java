/** Promises 16 and 17: trades, and what was told by how all lay. */
public final class TradeTest {
    private static final int NONE = TallTales.NONE;

    public static void main(String[] args) {
        promise16();
        promise16Told();
        promise17();
        promise17Now();
        promise17Refused();
        Check.end("TradeTest");
    }

    private static void promise16() {
        // guest 0: 50 40; guest 1: 45 20; guest 2: 10
        TallTales t = Check.inn("i3;t050;t040;t145;t120;t210");
        // 50 is strong now. Without it 0 has 45 40 against 50: none
        Check.due("16 50 for 45", t.trade(0, 2), 99);
        // with 45 for 40 guest 0 has 50 45 against 40: two
        Check.due("16 40 for 45", t.trade(1, 2), 101);
        Check.due("16 40 for 20", t.trade(1, 3), 100);
        // guest 1 has none; with 50 for 20 it has 50 45 against 40
        Check.due("16 20 for 50", t.trade(3, 0), 102);
        Check.due("16 45 for 50", t.trade(2, 0), 101);
        Check.due("16 45 for 40", t.trade(2, 1), 100);
        Check.due("16 10 for 50", t.trade(4, 0), 101);
        Check.due("16 it is only told", t.ofTale(0, 1), 0);
        Check.due("16 the same one", t.trade(0, 0), -3);
        Check.due("16 of one guest", t.trade(0, 1), -3);
        Check.due("16 of one guest, either way", t.trade(1, 0), -3);
        Check.due("16 tale 5", t.trade(5, 0), -1);
        Check.due("16 for tale 5", t.trade(0, 5), -1);
        Check.due("16 tale -1", t.trade(-1, 0), -1);
        Check.due("16 for tale -1", t.trade(0, -1), -1);
        // like ones are not taller
        TallTales like = Check.inn("i2;t030;t130;t020;t110");
        Check.due("16 30 for 30", like.trade(0, 1), 100);
        Check.due("16 20 for 30", like.trade(2, 1), 102);
        Check.due("16 10 for 20", like.trade(3, 2), 100);
        // others have none that may be told: all one's own are strong
        TallTales all = Check.inn("i2;t001;t005;t150");
        Check.due("16 two of two then", all.trade(0, 2), 102);
        Check.due("16 all of the other's", all.trade(2, 0), 99);
    }

    private static void promise16Told() {
        TallTales t = Check.inn("i2;t050;t010;g145;w101");
        Check.due("16 for a true one", t.trade(1, 3), 102);
        Check.night(t, 0, 3);
        // 50 and 901 may not be told: 10 against 45
        Check.due("16 10 for 45", t.trade(1, 2), 101);
        Check.due("16 50 for 45: both are all others have", t.trade(0, 2), 102);
        Check.due("16 45 for one that may not be told", t.trade(2, 0), 99);
        Check.due("16 901 for 10: 45 10, nothing against them", t.trade(3, 1), 101);
        Check.night(t, 1, 2);
        // none may be told
        Check.due("16 none may be told", t.trade(0, 2), 100);
        t.night();
        // 45 is 55 tonight: for an untold guest alone it stays strong
        t.memory(0);
        Check.due("16 50 for 55", t.trade(0, 2), 101);
        Check.due("16 10 for 55", t.trade(1, 2), 102);
        // 55 is strong, 901 is not: it was told
        Check.due("16 55 for 50", t.trade(2, 0), 99);
        // what is chosen is no matter
        t.choose(1, 2);
        Check.due("16 chosen", t.trade(1, 2), 102);
    }

    private static void told(TallTales t, int night, int[] row, int... due) {
        Check.row(t, 1, 1, row);
        for (int g = 0; g < due.length; g++) {
            Check.due("17 toldBy(" + night + ", " + g + ")", t, t.toldBy(night, g, 1, 1, 0), due[g], 0);
        }
    }

    private static int[] row(int... all) {
        return all;
    }

    private static void promise17() {
        int none = 1 << 10;
        // guest 0: 50 g20 w1, guest 1: 45 g20, guest 2: 30
        TallTales t = Check.inn("i3;t050;g020;w001;t145;g120;t230");
        Check.night(t, 1, 4, 5);
        // 30 20 20: 2 0 1
        told(t, 0, row(2, 0, 1), 1 << 1, 1 << 4 | none, 1 << 5);
        // guest 0 ahead of 30: 50 or 901
        told(t, 0, row(0, 2, 1), 1 | 1 << 2, 0, 0);
        told(t, 0, row(2, 1, 0), none, 0, 0);
        told(t, 0, row(1, 2, 0), 0, 1 << 3, 0);
        told(t, 0, row(1, 0, 2), 0, 0, 0);
        told(t, 0, row(0, 1, 2), 0, 0, none);
        t.night();
        told(t, 1, row(0, 1, 2), 7 | none, none, none);
        told(t, 1, row(1, 0, 2), 0, 1 << 3 | 1 << 4, 0);
        told(t, 1, row(2, 0, 1), 0, 0, 1 << 5);
        Check.night(t, NONE, 4, NONE);
        // 30 of guest 1: of guest 0 with g30 tonight like ones lie ahead
        told(t, 2, row(0, 1, 2), 7, none, 0);
        told(t, 2, row(1, 0, 2), none, 1 << 3 | 1 << 4, none);
        // 30 of guest 2 is like guest 1's, and behind it
        told(t, 2, row(1, 2, 0), 0, 0, 1 << 5);
        // later tellings are no matter to night 0
        told(t, 0, row(2, 0, 1), 1 << 1, 1 << 4 | none, 1 << 5);
        // two guests alone without tales
        TallTales bare = Check.inn("i2;t010");
        bare.night();
        told(bare, 0, row(0, 1), 1 | none, none);
        told(bare, 0, row(1, 0), 0, 0);
    }

    /** Nights undone are told anew, and tales count as often told as before that night. */
    private static void promise17Now() {
        TallTales t = Check.inn("i2;g010;t115");
        t.memory(0);
        Check.night(t, 0, 1);
        Check.night(t, NONE, 1);
        Check.night(t, 0, 1);
        told(t, 0, row(1, 0), 1 | 1 << 10, 2);
        told(t, 1, row(1, 0), 1 << 10, 2);
        told(t, 1, row(0, 1), 1, 1 << 10);
        told(t, 2, row(0, 1), 1, 2 | 1 << 10);
        t.undo(3);
        Check.night(t, NONE, 1);
        told(t, 0, row(1, 0), 1 | 1 << 10, 2);
        Check.due("17 undone", t.toldBy(1, 0, 1, 1, 0), -1);
    }

    private static void promise17Refused() {
        TallTales t = Check.inn("i3;t050;t110");
        Check.due("17 no night", t, t.toldBy(0, 0, 1, 0, 0), -1, 0);
        t.night();
        Check.due("17 night 1", t, t.toldBy(1, 0, 1, 7, 0), -1, 0);
        Check.due("17 night -1", t, t.toldBy(-1, 0, 1, 7, 0), -1, 0);
        Check.due("17 guest 3", t, t.toldBy(0, 3, 1, 7, 0), -1, 0);
        Check.due("17 guest -1", t, t.toldBy(0, -1, 1, 7, 0), -1, 0);
        Check.due("17 sheet 4", t, t.toldBy(0, 0, 4, 7, 0), -1, 0);
        Check.due("17 sheet -1", t, t.toldBy(0, 0, -1, 7, 0), -1, 0);
        Check.due("17 sort 3", t, t.toldBy(0, 0, 1, 3, -1), -2, 0);
        Check.due("17 sort -1", t, t.toldBy(0, 0, 1, -1, -1), -2, 0);
        Check.due("17 nothing", t, t.toldBy(0, 0, 1, 0, -1), -11, 1);
        Check.row(t, 1, 2, 0, 1, 2, 0, 3, -1, 1);
        Check.due("17 another sort", t, t.toldBy(0, 0, 1, 0, -1), -12, 2);
        Check.due("17 index -1", t, t.toldBy(0, 0, 1, 2, -1), -13, 3);
        Check.due("17 index 5", t, t.toldBy(0, 0, 1, 2, 5), -13, 3);
        Check.due("17 index far", t, t.toldBy(0, 0, 1, 2, Integer.MAX_VALUE), -13, 3);
        Check.due("17 a row", t, t.toldBy(0, 0, 1, 2, 0), 1 | 1 << 10, 0);
        Check.due("17 a row from 1 on", t, t.toldBy(0, 0, 1, 2, 1), 0, 0);
        Check.due("17 guest 3 in it", t, t.toldBy(0, 0, 1, 2, 2), -2, 0);
        Check.due("17 -1 in it", t, t.toldBy(0, 0, 1, 2, 4), -2, 0);
        Check.row(t, 1, 2, 0, 1, 1);
        Check.due("17 a guest twice", t, t.toldBy(0, 0, 1, 2, 0), -2, 0);
        Check.row(t, 1, 2, 0, 33, 2);
        Check.due("17 33 is no 1", t, t.toldBy(0, 0, 1, 2, 0), -2, 0);
        Check.row(t, 1, 0, 256, 257, 258);
        Check.due("17 bytes are cut", t, t.toldBy(0, 1, 1, 0, 0), 1 << 10, 0);
    }
}
