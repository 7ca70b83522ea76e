/** Promises 10 to 14, sentence by sentence: the bounds that each names, and what is refused. */
public final class TonightBoundsTest {
    private static final int NONE = TallTales.NONE, MIN = Integer.MIN_VALUE, MAX = Integer.MAX_VALUE;

    public static void main(String[] args) {
        p10Refused();
        p10Need();
        p10NeedIsJustEnough();
        p10Places();
        p11Refused();
        p11None();
        p11LeastTallThenLeastNumber();
        p11JustTallEnough();
        p12Refused();
        p12None();
        p12NotChosenOnes();
        p12LeastTallThenLeastNumber();
        p13Bounds();
        p13NoLessTall();
        p14Refused();
        p14None();
        p14AllAlike();
        p14NoneAlone();
        p14TheFirst();
        Check.end("TonightBoundsTest");
    }

    private interface Ask {
        int of(TallTales t, int g, int what);
    }

    /** "UNKNOWN; OUTSIDE." of a call of a GUEST and a number 0 .. most; it changes nothing where it answers, too. */
    private static void refused(String call, Ask ask, int most) {
        for (int g : new int[] {MIN, NONE, -1, 3, 4, 5, MAX}) {
            for (int what : new int[] {-1, 0, most, most + 1}) {
                Seen.leavesAll(call + " UNKNOWN " + g, Ways::lived, t -> ask.of(t, g, what), -1);
            }
        }
        for (int what : new int[] {MIN, -1, most + 1, MAX}) {
            for (int g = 0; g < 3; g++) {
                int of = g;
                Seen.leavesAll(call + " OUTSIDE " + what, Ways::lived, t -> ask.of(t, of, what), -2);
            }
        }
        for (int what = -1; what <= most + 1; what++) {
            int of = what;
            Seen.leavesAll(call + " UNKNOWN without an inn", Ways::nothing, t -> ask.of(t, 0, of), -1);
        }
    }

    // "What a GUEST has CHOSEN (what 0; NONE), its PLACE so (1), NEED (2). UNKNOWN; OUTSIDE."

    private static void p10Refused() {
        refused("10 tonight", (t, g, what) -> t.tonight(g, what), 2);
        int[][] due = {{NONE, 1, 902}, {NONE, 2, 902}, {2, 0, 1}};
        for (int g = 0; g < 3; g++) {
            for (int what = 0; what < 3; what++) {
                int guest = g;
                int of = what;
                Seen.leavesAll("10 tonight(" + g + ", " + what + ")", Ways::lived, t -> t.tonight(guest, of), due[g][what]);
            }
        }
    }

    // "NEED: how TALL it would have to be at least, so that a GUEST had the bed, others as they have CHOSEN (1 at least)."

    private static void need(TallTales t, int... due) {
        for (int g = 0; g < due.length; g++) Check.due("10 NEED of " + g, t.tonight(g, 2), due[g]);
    }

    private static void p10Need() {
        TallTales t = Check.inn("i5;t001;t101;t250;w399;w499");
        need(t, 1, 1, 1, 1, 1);
        t.choose(0, 0);
        need(t, 1, 2, 2, 2, 2);
        t.choose(1, 1);
        need(t, 1, 2, 2, 2, 2);
        t.choose(0, NONE);
        need(t, 1, 1, 2, 2, 2);
        t.choose(2, 2);
        need(t, 50, 50, 2, 51, 51);
        t.choose(3, 3);
        need(t, 999, 999, 999, 51, 1000);
        t.choose(4, 4);
        need(t, 999, 999, 999, 999, 1000);
        TallTales last = Check.inn("i2;t101");
        last.choose(1, 0);
        need(last, 1, 1);
        TallTales first = Check.inn("i2;t001");
        first.choose(0, 0);
        need(first, 1, 2);
    }

    /** So TALL a guest has the bed, and one less TALL it has not. */
    private static void p10NeedIsJustEnough() {
        for (int height = 1; height <= 99; height += 7) {
            for (int g = 0; g < 3; g++) {
                TallTales t = Check.inn("i3;t" + (g == 0 ? 1 : 0) + height / 10 + height % 10 + ";t250;t" + g + "01");
                t.choose(g == 0 ? 1 : 0, 0);
                if (g != 2) t.choose(2, 1);
                justEnough(t, g, height);
            }
        }
    }

    private static void justEnough(TallTales t, int g, int height) {
        int need = t.tonight(g, 2);
        Check.due("10 NEED of " + g, need, g == 2 ? height + 1 : g == 1 ? Math.max(height + 1, 50) : Math.max(height, 50));
        for (int tall = need - 1; tall <= need; tall++) {
            if (tall < 1 || tall > 99) continue;
            String one = ";t" + g + tall / 10 + tall % 10;
            int other = g == 0 ? 1 : 0;
            TallTales with = Check.inn("i3;t" + other + height / 10 + height % 10 + ";t250" + one);
            with.choose(other, 0);
            if (g != 2) with.choose(2, 1);
            with.choose(g, 2);
            Check.due("10 the bed with " + tall + " of " + need, with.tonight(g, 1) == 0 ? 1 : 0, tall == need ? 1 : 0);
        }
    }

    private static void p10Places() {
        TallTales t = Check.inn("i5;t050;t150;t250;t350;t450");
        for (int g = 0; g < 5; g++) Check.due("10 nobody: by number", t.tonight(g, 1), g);
        for (int g = 4; g >= 0; g--) {
            t.choose(g, g);
            Check.due("10 the least number of like ones", t.tonight(g, 1), 0);
            Check.due("10 the last of like ones", t.tonight(4, 1), 4 - g);
            if (g > 0) Check.due("10 the first of those who tell none", t.tonight(0, 1), 5 - g);
            if (g > 1) Check.due("10 the last of those who tell none", t.tonight(g - 1, 1), 4);
        }
    }

    // "ANSWER (what 0; NONE), the PLACE by it (1; NONE)."

    private static void reply(TallTales t, Ask ask, String call, int g, int tale, int place) {
        Check.due(call + "(" + g + ", 0)", ask.of(t, g, 0), tale);
        Check.due(call + "(" + g + ", 1)", ask.of(t, g, 1), place);
    }

    private static void answer(TallTales t, int g, int tale, int place) {
        reply(t, (of, guest, what) -> of.answer(guest, what), "11 answer", g, tale, place);
    }

    private static void borrowed(TallTales t, int g, int tale, int place) {
        reply(t, (of, guest, what) -> of.borrowed(guest, what), "12 borrowed", g, tale, place);
    }

    private static void p11Refused() {
        refused("11 answer", (t, g, what) -> t.answer(g, what), 1);
        Seen.leavesAll("11 it is only told", Ways::lived, t -> t.answer(0, 0), 3);
        Seen.leavesAll("11 it is only told", Ways::lived, t -> t.answer(1, 1), NONE);
    }

    // "NONE: it has none."

    private static void p11None() {
        TallTales t = Check.inn("i3;t050;g110;w050");
        answer(t, 2, NONE, NONE);
        Check.due("11 OUTSIDE of one that has none", t.answer(2, 2), -2);
        answer(t, 1, 1, 0);
        Check.night(t, 0, 1);
        // it has none that MAY be told
        answer(t, 1, NONE, NONE);
        answer(t, 0, 2, 0);
        Check.night(t, 2, NONE);
        answer(t, 0, NONE, NONE);
        answer(t, 1, 1, 0);
        // a plain one comes back when MEMORY is over, in night 2 with a MEMORY of 1
        t.memory(2);
        answer(t, 0, NONE, NONE);
        t.memory(1);
        answer(t, 0, 0, 0);
        // what it has CHOSEN itself is no matter
        t.choose(0, 0);
        answer(t, 0, 0, 0);
    }

    // "of several the least TALL, then the least number"

    private static void p11LeastTallThenLeastNumber() {
        TallTales t = Check.inn("i2;t030;t020;t020;t110;t021;w001;g020");
        answer(t, 0, 1, 0);
        t.choose(1, 3);
        answer(t, 0, 1, 0);
        t.choose(0, 1);
        answer(t, 0, 1, 0);
        Check.night(t, 1, NONE);
        answer(t, 0, 2, 0);
        Check.night(t, 2, NONE);
        answer(t, 0, 6, 0);
        Check.night(t, 6, NONE);
        answer(t, 0, 4, 0);
        // all give the last PLACE: the least TALL still
        TallTales low = Check.inn("i2;w001;t190;t120;t110;t110");
        low.choose(0, 0);
        answer(low, 1, 3, 1);
        // TALL as it is tonight: 20 grown twice is more than 30
        TallTales grown = Check.inn("i2;g020;t030;t101");
        answer(grown, 0, 0, 0);
        Check.night(grown, 0, NONE);
        grown.night();
        answer(grown, 0, 0, 0);
        Check.night(grown, 0, NONE);
        grown.night();
        answer(grown, 0, 1, 0);
    }

    // "gives it the best PLACE": just as TALL is enough against a greater number, one more is needed against a less one

    private static void p11JustTallEnough() {
        TallTales t = Check.inn("i3;t049;t050;t051;t150;t249;t250;t251");
        t.choose(1, 3);
        answer(t, 0, 1, 0);
        answer(t, 2, 6, 0);
        t.choose(2, 6);
        answer(t, 0, 2, 0);
        t.choose(0, 2);
        answer(t, 1, 3, 2);
        t.choose(2, 5);
        answer(t, 1, 3, 1);
        // none reaches the bed, one the bench
        answer(t, 2, 6, 1);
        // a better PLACE is better, however less TALL one that comes behind it is
        TallTales down = Check.inn("i3;t051;t050;t049;t150;t251;t250;t249");
        down.choose(1, 3);
        answer(down, 0, 1, 0);
        answer(down, 2, 4, 0);
        borrowed(down, 0, 5, 0);
        borrowed(down, 2, 0, 0);
        down.choose(2, 4);
        answer(down, 0, 0, 0);
        answer(down, 1, 3, 1);
        borrowed(down, 1, 0, 0);
    }

    // "BORROWED: likewise of all TALES of others that MAY be told and are not CHOSEN."

    private static void p12Refused() {
        refused("12 borrowed", (t, g, what) -> t.borrowed(g, what), 1);
        Seen.leavesAll("12 it is only told", Ways::lived, t -> t.borrowed(1, 0), 3);
        Seen.leavesAll("12 it is only told", Ways::lived, t -> t.borrowed(0, 1), NONE);
    }

    private static void p12None() {
        TallTales t = Check.inn("i3;t050;t060");
        // others have none
        borrowed(t, 0, NONE, NONE);
        borrowed(t, 1, 0, 0);
        t.choose(0, 0);
        borrowed(t, 1, 1, 0);
        Check.night(t, 1, NONE);
        borrowed(t, 1, 0, 0);
        t.choose(0, 0);
        // the one that is left is CHOSEN
        borrowed(t, 1, NONE, NONE);
        borrowed(t, 2, NONE, NONE);
        t.choose(0, NONE);
        borrowed(t, 2, 0, 0);
        Check.night(t, 0, NONE);
        // none of them MAY be told
        borrowed(t, 1, NONE, NONE);
        t.memory(1);
        borrowed(t, 1, 1, 0);
        t.memory(2);
        borrowed(t, 1, NONE, NONE);
    }

    private static void p12NotChosenOnes() {
        TallTales t = Check.inn("i3;t010;t120;t230");
        int[][] others = {{1, 2}, {0, 2}, {0, 1}};
        for (int g = 0; g < 3; g++) {
            borrowed(t, g, others[g][0], 0);
            t.choose(others[g][0], others[g][0]);
            // 30 against 10 or 20 has the bed, 20 against 10 too
            borrowed(t, g, others[g][1], 0);
            t.choose(others[g][1], others[g][1]);
            borrowed(t, g, NONE, NONE);
            // its own is no matter
            t.choose(g, g);
            borrowed(t, g, NONE, NONE);
            for (int o = 0; o < 3; o++) t.choose(o, NONE);
        }
    }

    private static void p12LeastTallThenLeastNumber() {
        TallTales t = Check.inn("i3;t001;t130;t220;t120;t220;t140;t241");
        borrowed(t, 0, 2, 0);
        t.choose(1, 1);
        borrowed(t, 0, 5, 0);
        t.choose(2, 2);
        borrowed(t, 0, 5, 0);
        t.choose(2, 6);
        // 40 lies behind 41: the bench with 40, with 20 the place behind 30
        borrowed(t, 0, 5, 1);
        t.choose(1, 5);
        // 30 lies behind both, as 20 does: the least TALL of these, then the least number
        borrowed(t, 0, 2, 2);
    }

    // "A BISHOP comes in and tells one so TALL (0 .. 999)" "OUTSIDE; STATE: there is no INN."

    private static void p13Bounds() {
        for (int tall : new int[] {MIN, -1, 1000, MAX}) {
            Seen.leavesAll("13 OUTSIDE " + tall, Ways::lived, t -> t.bishop(tall), -2);
            Seen.leavesAll("13 OUTSIDE ahead of STATE " + tall, Ways::nothing, t -> t.bishop(tall), -2);
        }
        for (int tall : new int[] {0, 1, 500, 999}) {
            Seen.leavesAll("13 STATE " + tall, Ways::nothing, t -> t.bishop(tall), -3);
        }
        for (int tall : new int[] {0, 1, 901, 902}) Seen.leavesAll("13 " + tall, Ways::lived, t -> t.bishop(tall), 1);
        for (int tall : new int[] {903, 999}) Seen.leavesAll("13 " + tall, Ways::lived, t -> t.bishop(tall), 0);
    }

    // "its PLACE is how many GUESTS have CHOSEN one that is no less TALL"

    private static void p13NoLessTall() {
        TallTales t = Check.inn("i5;t001;t150;t250;w301;w499");
        int[] edges = {0, 1, 2, 49, 50, 51, 900, 901, 902, 998, 999};
        for (int tall : edges) Check.due("13 nobody has CHOSEN", t.bishop(tall), 0);
        for (int g = 0; g < 5; g++) t.choose(g, g);
        int[] due = {5, 5, 4, 4, 4, 2, 2, 2, 1, 1, 1};
        for (int n = 0; n < due.length; n++) Check.due("13 all, " + edges[n], t.bishop(edges[n]), due[n]);
        // those who have CHOSEN none lie behind one of 0, too
        t.choose(0, NONE);
        t.choose(4, NONE);
        int[] then = {3, 3, 3, 3, 3, 1, 1, 1, 0, 0, 0};
        for (int n = 0; n < then.length; n++) Check.due("13 some, " + edges[n], t.bishop(edges[n]), then[n]);
        TallTales grown = Check.inn("i2;g010");
        Check.night(grown, 0);
        grown.night();
        grown.choose(0, 0);
        Check.due("13 as TALL as it is tonight", grown.bishop(20), 1);
        Check.due("13 one more", grown.bishop(21), 0);
    }

    // "how many (g -1; without an INN 0), what a GUEST tells by the first; NONE: it tells none. UNKNOWN: GUEST, g below -1."

    private static void p14Refused() {
        for (int g : new int[] {MIN, NONE, -3, -2, 3, 4, 5, MAX}) {
            Seen.leavesAll("14 UNKNOWN " + g, Ways::lived, t -> t.rests(g), -1);
        }
        for (int g : new int[] {MIN, -2, 0, 1, MAX}) {
            Seen.leavesAll("14 UNKNOWN without an inn " + g, Ways::nothing, t -> t.rests(g), -1);
        }
        Seen.leavesAll("14 without an INN 0", Ways::nothing, t -> t.rests(-1), 0);
        int[] due = {3, NONE, 2};
        Seen.leavesAll("14 it is only told", Ways::lived, t -> t.rests(-1), 1);
        for (int g = 0; g < 3; g++) {
            int of = g;
            Seen.leavesAll("14 it is only told", Ways::lived, t -> t.rests(of), due[g]);
        }
    }

    private static void rests(TallTales t, int count, int... row) {
        Check.due("14 how many", t.rests(-1), count);
        for (int g = 0; g < row.length; g++) Check.due("14 what " + g + " tells", t.rests(g), row[g]);
        Check.due("14 UNKNOWN: one beyond", t.rests(row.length), -1);
    }

    // "(each one of its own that MAY be told; none, if it has none)"

    private static void p14None() {
        TallTales t = Check.inn("i5;t450");
        rests(t, 1, NONE, NONE, NONE, NONE, 0);
        Check.night(t, NONE, NONE, NONE, NONE, 0);
        rests(t, 1, NONE, NONE, NONE, NONE, NONE);
        t.memory(0);
        rests(t, 1, NONE, NONE, NONE, NONE, 0);
        // 1 and 2 are both ahead of one that tells none, though its number is less
        rests(Check.inn("i2;t101;t102"), 2, NONE, 0);
        rests(Check.inn("i3;t201;t202;t003"), 2, 2, NONE, 0);
        // telling none is no choice of one that has a tale: 5 is told, though it changes no place
        rests(Check.inn("i2;t050;t105"), 1, 0, 1);
        TallTales all = Check.inn("i2;w001;g002;t003;t104");
        rests(all, 1, 0, 3);
        Check.night(all, 0, NONE);
        rests(all, 2, 1, 3);
        Check.night(all, 1, 3);
        rests(all, 1, 2, NONE);
        // MEMORY is over for the plain one in night 2 with a MEMORY of 0: 4 against 12 that was told last night
        all.memory(0);
        rests(all, 1, 2, 3);
        all.night();
        rests(all, 1, 1, 3);
    }

    // "of like ones the GUEST of the least number"

    private static void p14AllAlike() {
        // with all alike nobody does better by another one
        rests(Check.inn("i2;t050;t050;t150;t150"), 4, 0, 2);
        rests(Check.inn("i5;t050;t050;t150;t150;t250;t250;t350;t350;t450;t450"), 32, 0, 2, 4, 6, 8);
        rests(Check.inn("i3;t050;t050;t050;t150;t150;t150;t250;t250;t250;t250"), 36, 0, 3, 6);
        // all ten are one GUEST's: ten choices, none better
        rests(Check.inn("i2;t001;t099;w001;g001;t002;t003;t004;t005;t006;t007"), 10, 0, NONE);
    }

    // "by which no GUEST alone had a better PLACE by another one of its own"

    private static void p14NoneAlone() {
        // 50 and 49 of the first against 50 of the second: as TALL is enough for the first
        rests(Check.inn("i2;t049;t050;t150"), 1, 1, 2);
        // one more is needed for the second: 50 or 51 against 50
        rests(Check.inn("i2;t050;t150;t151"), 1, 0, 2);
        rests(Check.inn("i2;t050;t150;t149"), 2, 0, 1);
        // the first has the bed with 51 and 60, the second cannot help it; with 50 it could
        rests(Check.inn("i2;t050;t051;t060;t151;t120"), 4, 1, 3);
    }

    // "the first as a row by GUESTS (of TALES' numbers"

    private static void p14TheFirst() {
        // the numbers count, not the heights
        rests(Check.inn("i2;t190;t080;t191;t081;t192;t082"), 9, 1, 0);
        rests(Check.inn("i2;t101;t060;t110;t070;t120"), 6, 1, 0);
        // the 7 of the first is ahead of 5 alone: the second one's 10 would have the bed
        rests(Check.inn("i2;t105;t110;t007;t060"), 2, 3, 0);
        // 52 has the bed, 51 the bench, the last lies behind them with 50 and with 49
        rests(Check.inn("i3;t220;t150;t010;t051;t252;t149"), 2, 3, 1, 4);
    }
}
