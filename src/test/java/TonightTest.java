/** Promises 10 to 14: tonight, answers, borrowed tales, a bishop, rests. */
public final class TonightTest {
    private static final int NONE = TallTales.NONE;

    public static void main(String[] args) {
        promise10();
        promise11();
        promise12();
        promise13();
        promise14();
        promise14Many();
        Check.end("TonightTest");
    }

    private static void tonight(TallTales t, int what, int... due) {
        for (int g = 0; g < due.length; g++) Check.due("10 tonight(" + g + ", " + what + ")", t.tonight(g, what), due[g]);
    }

    private static void promise10() {
        TallTales t = Check.inn("i4;t150;g250;w301;t020");
        tonight(t, 0, NONE, NONE, NONE, NONE);
        tonight(t, 1, 0, 1, 2, 3);
        tonight(t, 2, 1, 1, 1, 1);
        t.choose(1, 0);
        tonight(t, 0, NONE, 0, NONE, NONE);
        tonight(t, 1, 1, 0, 2, 3);
        // a guest ahead of the tallest needs as much, one behind it one more
        tonight(t, 2, 50, 1, 51, 51);
        t.choose(2, 1);
        tonight(t, 1, 2, 0, 1, 3);
        tonight(t, 2, 50, 50, 51, 51);
        t.choose(3, 2);
        tonight(t, 1, 3, 1, 2, 0);
        tonight(t, 2, 901, 901, 901, 51);
        t.choose(1, NONE);
        t.choose(0, 3);
        tonight(t, 1, 2, 3, 1, 0);
        Check.due("10 what 3", t.tonight(0, 3), -2);
        Check.due("10 what -1", t.tonight(0, -1), -2);
        Check.due("10 guest 4", t.tonight(4, 3), -1);
        Check.due("10 guest -1", t.tonight(-1, 0), -1);
        TallTales high = Check.inn("i2;w099;w199");
        high.choose(0, 0);
        high.choose(1, 1);
        tonight(high, 2, 999, 1000);
        tonight(high, 1, 0, 1);
        TallTales grown = Check.inn("i2;g010;t115");
        Check.night(grown, 0, NONE);
        grown.night();
        grown.choose(0, 0);
        Check.due("10 as tall as it is tonight", grown.tonight(1, 2), 21);
    }

    private static void answer(TallTales t, int g, int tale, int place) {
        Check.due("11 answer(" + g + ", 0)", t.answer(g, 0), tale);
        Check.due("11 answer(" + g + ", 1)", t.answer(g, 1), place);
    }

    private static void promise11() {
        TallTales t = Check.inn("i4;t050;t040;t040;w001;t145;t150;t120;g299;t210");
        // nobody has chosen: any tale gives the bed, so the least tall, then the least number
        answer(t, 0, 1, 0);
        answer(t, 1, 6, 0);
        answer(t, 2, 8, 0);
        answer(t, 3, NONE, NONE);
        t.choose(1, 5);
        // 50 of the guest ahead suffices, 40 does not
        answer(t, 0, 0, 0);
        // what oneself has chosen is no matter
        answer(t, 1, 6, 0);
        answer(t, 2, 7, 0);
        t.choose(2, 7);
        answer(t, 0, 3, 0);
        answer(t, 1, 6, 1);
        t.choose(0, 1);
        answer(t, 1, 4, 1);
        Check.night(t, 3, NONE, 7, NONE);
        Check.due("11 guest 2's tallest may not be told", t.answer(2, 0), 8);
        Check.due("11 guest 0's tallest may not be told", t.answer(0, 0), 1);
        t.choose(1, 5);
        answer(t, 2, 8, 1);
        answer(t, 0, 0, 0);
        Check.night(t, 0, NONE, 8, NONE);
        Check.night(t, 1, NONE, 7, NONE);
        answer(t, 2, NONE, NONE);
        answer(t, 0, 2, 0);
        Check.due("11 what 2", t.answer(0, 2), -2);
        Check.due("11 what -1", t.answer(0, -1), -2);
        Check.due("11 what 2 of a guest without any", t.answer(3, 2), -2);
        Check.due("11 guest 4", t.answer(4, 2), -1);
        Check.due("11 guest -1", t.answer(-1, 0), -1);
        // best is the place, not the height: all give the same place here
        TallTales low = Check.inn("i3;t110;t130;t120;w090;t240");
        low.choose(0, 3);
        low.choose(2, 4);
        answer(low, 1, 0, 2);
    }

    private static void borrowed(TallTales t, int g, int tale, int place) {
        Check.due("12 borrowed(" + g + ", 0)", t.borrowed(g, 0), tale);
        Check.due("12 borrowed(" + g + ", 1)", t.borrowed(g, 1), place);
    }

    private static void promise12() {
        TallTales t = Check.inn("i3;t050;g110;t110;w220;t005");
        borrowed(t, 0, 1, 0);
        borrowed(t, 1, 4, 0);
        borrowed(t, 2, 4, 0);
        t.choose(1, 1);
        // what another one has chosen cannot be borrowed, what it has not can
        borrowed(t, 0, 2, 0);
        borrowed(t, 2, 0, 0);
        t.choose(0, 0);
        borrowed(t, 2, 4, 2);
        borrowed(t, 1, 3, 0);
        Check.night(t, 0, NONE, 3);
        // told ones may not be told: 0 and 3 are out
        borrowed(t, 2, 4, 0);
        borrowed(t, 1, 4, 0);
        t.choose(1, 1);
        borrowed(t, 0, 2, 0);
        borrowed(t, 2, 4, 1);
        t.choose(1, 2);
        t.choose(0, 4);
        borrowed(t, 2, 1, 1);
        Check.due("12 what 2", t.borrowed(0, 2), -2);
        Check.due("12 what -1", t.borrowed(0, -1), -2);
        Check.due("12 guest 3", t.borrowed(3, 2), -1);
        Check.due("12 guest -1", t.borrowed(-1, 0), -1);
        TallTales own = Check.inn("i2;t050;t060");
        borrowed(own, 0, NONE, NONE);
        borrowed(own, 1, 0, 0);
        own.choose(0, 0);
        borrowed(own, 1, 1, 0);
        Check.due("12 what 2 without any", own.borrowed(0, 2), -2);
    }

    private static void promise13() {
        TallTales t = new TallTales();
        Check.due("13 without an inn", t.bishop(0), -3);
        Check.due("13 -1 without an inn", t.bishop(-1), -2);
        Check.due("13 1000 without an inn", t.bishop(1000), -2);
        Check.due("13 inn", Check.open(t, "i4;t050;g150;w299"), 3);
        Check.due("13 none chosen", t.bishop(0), 0);
        t.choose(0, 0);
        t.choose(1, 1);
        t.choose(2, 2);
        int[][] due = {{0, 3}, {1, 3}, {49, 3}, {50, 3}, {51, 1}, {998, 1}, {999, 1}};
        for (int[] d : due) Check.due("13 bishop(" + d[0] + ")", t.bishop(d[0]), d[1]);
        t.choose(2, NONE);
        Check.due("13 999", t.bishop(999), 0);
        Check.due("13 0", t.bishop(0), 2);
        Check.due("13 -1", t.bishop(-1), -2);
        Check.due("13 1000", t.bishop(1000), -2);
    }

    private static void rests(TallTales t, int count, int... row) {
        Check.due("14 rests(-1)", t.rests(-1), count);
        for (int g = 0; g < row.length; g++) Check.due("14 rests(" + g + ")", t.rests(g), row[g]);
    }

    private static void promise14() {
        TallTales t = new TallTales();
        rests(t, 0);
        Check.due("14 guest 0 without an inn", t.rests(0), -1);
        Check.due("14 -2 without an inn", t.rests(-2), -1);
        Check.due("14 inn", Check.open(t, "i2;t050"), 1);
        rests(t, 1, 0, NONE);
        Check.due("14 -2", t.rests(-2), -1);
        Check.due("14 -9", t.rests(NONE), -1);
        Check.due("14 guest 2", t.rests(2), -1);
        Check.night(t, 0, NONE);
        // none may be told: the one choice is that all tell none
        rests(t, 1, NONE, NONE);
        // 30 and 20 both beat 10; guest 1's only tale is told
        rests(Check.inn("i2;t030;t020;t110"), 2, 0, 2);
        // what is chosen is no matter
        TallTales same = Check.inn("i2;t020;t030;t125");
        same.choose(0, 0);
        rests(same, 1, 1, 2);
        // like heights: the guest ahead has the bed with either, the other one is behind with either
        rests(Check.inn("i2;t020;t020;t120;t105"), 4, 0, 2);
        // a guest without tales lies behind
        rests(Check.inn("i3;t201;t102;t203"), 1, NONE, 1, 2);
    }

    private static void promise14Many() {
        // the last guest's 901 leaves the rest to be settled by 40 against 35 and 45
        TallTales t = Check.inn("i3;t040;t135;t145;w201;t210");
        rests(t, 1, 0, 2, 3);
        Check.night(t, NONE, 2, 3);
        // 45 is told, and 901: 40 against 35, both against 10: each has but one
        rests(t, 1, 0, 1, 4);
        // five guests, two tales each: who is tall enough with both may tell either
        rests(Check.inn("i5;t090;t080;t170;t160;t250;t240;t330;t320;t410;t405"), 32, 0, 2, 4, 6, 8);
        rests(Check.inn("i3;t010;t011;t012;t112;t113;t214;t215;t209;t208;t108"), 6, 0, 4, 5);
    }
}
