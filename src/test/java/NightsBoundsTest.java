/** Promises 5 to 9, sentence by sentence: the bounds that each names, and what is refused. */
public final class NightsBoundsTest {
    private static final int NONE = TallTales.NONE, MIN = Integer.MIN_VALUE, MAX = Integer.MAX_VALUE;

    public static void main(String[] args) {
        p5Unknown();
        p5State();
        p5WhatItHadChosen();
        p5AtTheVeryNight();
        p6State();
        p6SixtyAndFull();
        p6LikeOnes();
        p6ThoseWhoToldNone();
        p6AllThatAreChosenAreTold();
        p6NothingIsChosenThen();
        p7Refused();
        p7ToldNone();
        p7AsItWasInThatNight();
        p8Bounds();
        p8NothingIsChosenThen();
        p8Undone();
        p8FromFull();
        p9Unknown();
        p9None();
        p9Sixty();
        Check.end("NightsBoundsTest");
    }

    // "UNKNOWN: GUEST, TALE; STATE: it is not its own, it MAY not be told."

    private static void p5Unknown() {
        for (int g : new int[] {MIN, NONE, -1, 3, 4, MAX}) {
            for (int x : new int[] {NONE, 0, 1, 4}) {
                Seen.leavesAll("5 UNKNOWN: GUEST " + g, Ways::lived, t -> t.choose(g, x), -1);
            }
        }
        for (int x : new int[] {MIN, -10, -8, -1, 4, 9, 10, MAX}) {
            for (int g = 0; g < 3; g++) {
                int of = g;
                Seen.leavesAll("5 UNKNOWN: TALE " + x, Ways::lived, t -> t.choose(of, x), -1);
            }
        }
        for (int x : new int[] {NONE, 0}) {
            Seen.leavesAll("5 UNKNOWN: no GUEST without an inn", Ways::nothing, t -> t.choose(0, x), -1);
        }
    }

    private static void p5State() {
        // tale 0 was told too lately, tale 1 last night; 2 and 3 MAY be told
        Seen.leavesAll("5 STATE: not its own, it MAY be told", Ways::lived, t -> t.choose(0, 2), -3);
        Seen.leavesAll("5 STATE: not its own, it MAY be told", Ways::lived, t -> t.choose(2, 3), -3);
        Seen.leavesAll("5 STATE: not its own, it MAY not be told", Ways::lived, t -> t.choose(2, 0), -3);
        Seen.leavesAll("5 STATE: its own, a plain one told too lately", Ways::lived, t -> t.choose(0, 0), -3);
        Seen.leavesAll("5 STATE: its own, a GROWN one told last night", Ways::lived, t -> t.choose(1, 1), -3);
        Seen.leavesAll("5 STATE: its own, a TRUE one told once", t -> {
            Ways.lived(t);
            t.night();
            t.night();
            t.choose(0, 0);
        }, t -> t.choose(2, 2), -3);
        TallTales t = new TallTales();
        Ways.lived(t);
        Check.due("5 its own, never told", t.choose(0, 3), NONE);
        Check.due("5 its own, CHOSEN already", t.choose(2, 2), 2);
    }

    // "A GUEST CHOOSES a TALE, or none (NONE): what it had CHOSEN (NONE)."

    private static void p5WhatItHadChosen() {
        TallTales t = Check.inn("i5;t001;g099;w401;t402");
        for (int g = 0; g < 5; g++) Check.due("5 none, of none", t.choose(g, NONE), NONE);
        int[][] run = {{0, NONE}, {0, 0}, {1, 0}, {NONE, 1}, {1, NONE}};
        for (int[] r : run) {
            Check.due("5 what it had CHOSEN", t.choose(0, r[0]), r[1]);
            Check.due("5 what it has CHOSEN", t.tonight(0, 0), r[0]);
        }
        Check.due("5 the last GUEST", t.choose(4, 3), NONE);
        Check.due("5 the last GUEST, another", t.choose(4, 2), 3);
        Check.due("5 no other GUEST's", t.tonight(0, 0), 1);
        Check.due("5 it is not told yet", t.ofTale(2, 3), 0);
        Check.due("5 a GUEST without TALES: none", t.choose(2, NONE), NONE);
    }

    /** The first night in which a tale may be chosen again, and the one ahead of it. */
    private static void p5AtTheVeryNight() {
        for (int memory = 0; memory < 4; memory++) {
            TallTales t = Check.inn("i2;t050;g110");
            t.memory(memory);
            Check.night(t, 0, 1);
            for (int n = 0; n < memory; n++) {
                Check.due("5 MEMORY " + memory + ", TONIGHT " + (n + 1), t.choose(0, 0), -3);
                t.night();
            }
            Check.due("5 MEMORY " + memory + " is over", t.choose(0, 0), NONE);
        }
        TallTales t = Check.inn("i2;t050;g110");
        Check.night(t, NONE, 1);
        Check.due("5 GROWN, told last night", t.choose(1, 1), -3);
        t.night();
        Check.due("5 GROWN, not told last night", t.choose(1, 1), NONE);
    }

    // "A NIGHT goes by: who has the bed. STATE: there is no INN; FULL: 60 are over."

    private static void p6State() {
        Seen.leavesAll("6 STATE: there is no INN", Ways::nothing, t -> t.night(), -3);
        Seen.leavesAll("6 STATE: no text was taken", t -> Check.open(t, "i9;t001"), t -> t.night(), -3);
    }

    private static void p6SixtyAndFull() {
        Seen.leavesAll("6 FULL: 60 are over", Ways::full, t -> t.night(), -4);
        TallTales t = new TallTales();
        Ways.full(t);
        Check.due("6 sixty", t.many(2), 60);
        Check.due("6 the sixtieth is told of", t.ofNight(59, 0, 1), 0);
        Check.due("6 the sixty-first is none", t.ofNight(60, 0, 1), -1);
        Check.due("6 FULL", t.night(), -4);
        Check.due("6 FULL again", t.night(), -4);
        Check.due("6 one is undone", t.undo(1), 59);
        Check.due("6 59 are over: another one", t.night(), 0);
        Check.due("6 FULL again", t.night(), -4);
        Check.due("6 another inn", Check.open(t, "i2;t101"), 1);
        Check.due("6 its first", Check.night(t, NONE, 0), 1);
    }

    // "by how TALL what one told was, the tallest first; of like ones the GUEST of the least number"

    private static void places(TallTales t, int night, int... places) {
        for (int g = 0; g < places.length; g++) {
            Check.due("6 the PLACE of " + g + " in night " + night, t.ofNight(night, g, 1), places[g]);
        }
    }

    private static void p6LikeOnes() {
        TallTales t = Check.inn("i5;t050;t150;t250;t350;t450;t049;t451;g240");
        Check.due("6 all alike: the least number", Check.night(t, 0, 1, 2, 3, 4), 0);
        places(t, 0, 0, 1, 2, 3, 4);
        t.memory(0);
        Check.due("6 one less, one more", Check.night(t, 5, 1, 2, 3, 6), 4);
        places(t, 1, 4, 1, 2, 3, 0);
        // 40 grown once is 50
        Check.night(t, NONE, NONE, 7, NONE, NONE);
        t.night();
        Check.due("6 a GROWN one alike", Check.night(t, NONE, 1, 7, 3, 6), 4);
        places(t, 4, 4, 1, 2, 3, 0);
        // TRUE: 901 is more than any plain one, 999 the most; the true one of 1 is more than a grown one of 99
        TallTales high = Check.inn("i3;t099;w101;g299;w199;w099");
        Check.due("6 a TRUE one of 1 against 99 and 99", Check.night(high, 0, 1, 2), 1);
        places(high, 0, 1, 0, 2);
        Check.due("6 TRUE ones alike", Check.night(high, 4, 3, NONE), 0);
        places(high, 1, 0, 1, 2);
    }

    // "behind all of them those who told none, by number"

    private static void p6ThoseWhoToldNone() {
        TallTales t = Check.inn("i5;t001;t101;t201;t301;t401");
        t.memory(0);
        Check.due("6 nobody told any", t.night(), 0);
        places(t, 0, 0, 1, 2, 3, 4);
        Check.due("6 the last alone, with the least TALL", Check.night(t, NONE, NONE, NONE, NONE, 4), 4);
        places(t, 1, 1, 2, 3, 4, 0);
        Check.due("6 all but the first", Check.night(t, NONE, 1, 2, 3, 4), 1);
        places(t, 2, 4, 0, 1, 2, 3);
        Check.due("6 some", Check.night(t, NONE, 1, NONE, 3, NONE), 1);
        places(t, 3, 2, 0, 3, 1, 4);
        Check.due("6 one without TALES lies behind", Check.inn("i2;t101").night(), 0);
    }

    // "all that are CHOSEN are told"

    private static void p6AllThatAreChosenAreTold() {
        TallTales t = Check.inn("i5;t001;t101;t201;t301;t401;g001");
        Check.night(t, 0, 1, 2, 3, 4);
        for (int x = 0; x < 5; x++) {
            Check.due("6 told", t.ofTale(x, 3), 1);
            Check.due("6 told in", t.ofTale(x, 4), 0);
            Check.due("6 what it told", t.ofNight(0, x, 0), x);
        }
        Check.due("6 what was not CHOSEN is not told", t.ofTale(5, 3), 0);
        // chosen while it MAY be told, and CHOSEN still when MEMORY has grown: it is told
        t.memory(0);
        Check.due("6 CHOSEN with a MEMORY of 0", t.choose(1, 1), NONE);
        t.memory(99);
        Check.due("6 it MAY not be told now", t.ofTale(1, 5), 0);
        Check.due("6 it is CHOSEN", t.tonight(1, 0), 1);
        Check.due("6 it counts", t.night(), 1);
        Check.due("6 it is told", t.ofTale(1, 3), 2);
    }

    // "Nothing is CHOSEN then."

    private static void p6NothingIsChosenThen() {
        TallTales t = Check.inn("i5;t001;t101;t201;t301;t401");
        Check.night(t, 0, 1, 2, 3, 4);
        for (int g = 0; g < 5; g++) Check.due("6 nothing is CHOSEN then", t.tonight(g, 0), NONE);
        Check.due("6 so none is told", t.night(), 0);
        for (int g = 0; g < 5; g++) Check.due("6 none is told", t.ofNight(1, g, 0), NONE);
    }

    // "UNKNOWN: NIGHT, GUEST; OUTSIDE."

    private static void p7Refused() {
        for (int night : new int[] {MIN, -1, 1, 2, 59, 60, MAX}) {
            for (int what : new int[] {-1, 0, 2, 3}) {
                Seen.leavesAll("7 UNKNOWN: NIGHT " + night, Ways::lived, t -> t.ofNight(night, 0, what), -1);
            }
        }
        for (int g : new int[] {MIN, -1, 3, 4, 5, MAX}) {
            for (int what : new int[] {-1, 0, 2, 3}) {
                Seen.leavesAll("7 UNKNOWN: GUEST " + g, Ways::lived, t -> t.ofNight(0, g, what), -1);
            }
        }
        for (int what : new int[] {MIN, -1, 3, MAX}) {
            for (int g = 0; g < 3; g++) {
                int of = g;
                Seen.leavesAll("7 OUTSIDE " + what, Ways::lived, t -> t.ofNight(0, of, what), -2);
            }
        }
        Seen.leavesAll("7 UNKNOWN: no NIGHT is over", Ways::bare, t -> t.ofNight(0, 0, 3), -1);
        Seen.leavesAll("7 UNKNOWN without an inn", Ways::nothing, t -> t.ofNight(0, 0, 3), -1);
        Seen.leavesAll("7 UNKNOWN: NIGHT 60 of 60", Ways::full, t -> t.ofNight(60, 0, 3), -1);
        Seen.leavesAll("7 OUTSIDE in NIGHT 59 of 60", Ways::full, t -> t.ofNight(59, 2, 3), -2);
    }

    // "what a GUEST told (what 0; NONE), its PLACE (1), how TALL it was (2; 0: none)"

    private static void p7ToldNone() {
        TallTales t = new TallTales();
        Ways.lived(t);
        int[][] due = {{0, 0, 50}, {1, 1, 10}, {NONE, 2, 0}};
        for (int g = 0; g < 3; g++) {
            for (int what = 0; what < 3; what++) Check.due("7 of " + g + " " + what, t.ofNight(0, g, what), due[g][what]);
        }
        Check.due("7 the first and the last night", Check.night(t, NONE, NONE, NONE), 0);
        for (int g = 0; g < 3; g++) {
            int[] none = {NONE, g, 0};
            for (int what = 0; what < 3; what++) Check.due("7 none told", t.ofNight(1, g, what), none[what]);
        }
    }

    private static void p7AsItWasInThatNight() {
        TallTales t = new TallTales();
        Ways.full(t);
        for (int night = 0; night < 60; night++) {
            boolean told = night % 2 == 0;
            Check.due("7 told in " + night, t.ofNight(night, 1, 0), told ? 1 : NONE);
            Check.due("7 PLACE in " + night, t.ofNight(night, 1, 1), told ? 0 : 1);
            Check.due("7 how TALL it was in " + night, t.ofNight(night, 1, 2), told ? 10 + night / 2 * 10 : 0);
        }
    }

    // "The last k NIGHTS (0 .. as many as are over) are undone (nothing is CHOSEN then): how many are over. OUTSIDE."

    private static void p8Bounds() {
        for (int k : new int[] {MIN, NONE, -1, 2, 3, 60, MAX}) {
            Seen.leavesAll("8 OUTSIDE " + k + " of 1", Ways::lived, t -> t.undo(k), -2);
        }
        for (int k : new int[] {-1, 61, MAX}) Seen.leavesAll("8 OUTSIDE " + k + " of 60", Ways::full, t -> t.undo(k), -2);
        for (int k : new int[] {-1, 1}) Seen.leavesAll("8 OUTSIDE " + k + " of none", Ways::bare, t -> t.undo(k), -2);
        for (int k : new int[] {-1, 1}) Seen.leavesAll("8 OUTSIDE " + k, Ways::nothing, t -> t.undo(k), -2);
        Seen.leavesAll("8 none of none", Ways::bare, t -> t.undo(0), 0);
        Seen.leavesAll("8 none without an inn", Ways::nothing, t -> t.undo(0), 0);
        TallTales t = new TallTales();
        Ways.lived(t);
        Check.due("8 none of one", t.undo(0), 1);
        Check.due("8 all of one", t.undo(1), 0);
        Check.due("8 one more", t.undo(1), -2);
    }

    private static void p8NothingIsChosenThen() {
        for (int k = 0; k <= 1; k++) {
            TallTales t = new TallTales();
            Ways.lived(t);
            Check.due("8 another one CHOSEN", t.choose(0, 3), NONE);
            Check.due("8 undo " + k, t.undo(k), 1 - k);
            for (int g = 0; g < 3; g++) Check.due("8 nothing is CHOSEN then", t.tonight(g, 0), NONE);
            Check.due("8 nobody is ahead of a bishop", t.bishop(0), 0);
        }
    }

    private static void p8Undone() {
        // what is read after nights undone is what would be read without them
        for (int k = 0; k <= 5; k++) {
            TallTales t = Check.inn("i3;g010;t105;w207;g120");
            t.memory(1);
            int[][] nights = {{0, 1, 2}, {NONE, 3, NONE}, {0, 1, NONE}, {NONE, 3, NONE}, {0, 1, NONE}};
            TallTales other = Check.inn("i3;g010;t105;w207;g120");
            other.memory(1);
            for (int n = 0; n < 5; n++) Check.night(t, nights[n]);
            for (int n = 0; n < 5 - k; n++) Check.night(other, nights[n]);
            Check.due("8 how many are over", t.undo(k), 5 - k);
            same(t, other, k);
        }
    }

    private static void same(TallTales t, TallTales other, int k) {
        for (int what = 0; what < 4; what++) Check.due("8 many after " + k, t.many(what), other.many(what));
        for (int x = 0; x < 4; x++) {
            for (int what = 0; what < 7; what++) {
                Check.due("8 TALE " + x + " " + what + " after " + k, t.ofTale(x, what), other.ofTale(x, what));
            }
        }
        for (int g = 0; g < 3; g++) {
            for (int place = 0; place < 3; place++) Check.due("8 lay after " + k, t.lay(g, place), other.lay(g, place));
            for (int night = 0; night < 5; night++) {
                for (int what = 0; what < 3; what++) {
                    Check.due("8 NIGHT " + night + " after " + k, t.ofNight(night, g, what), other.ofNight(night, g, what));
                }
            }
        }
    }

    private static void p8FromFull() {
        TallTales t = new TallTales();
        Ways.full(t);
        Check.due("8 59 of 60", t.undo(59), 1);
        Check.due("8 told once", t.ofTale(1, 3), 1);
        Check.due("8 told last night", t.ofTale(1, 5), 0);
        Check.due("8 the last time", t.ofTale(1, 4), 0);
        Check.due("8 the last one", t.undo(1), 0);
        Check.due("8 never told", t.ofTale(1, 3), 0);
        Check.due("8 no last time", t.ofTale(1, 4), NONE);
        TallTales all = new TallTales();
        Ways.full(all);
        Check.due("8 60 of 60", all.undo(60), 0);
        Check.due("8 as TALL as at first", all.ofTale(1, 6), 10);
        Check.due("8 it begins again", Check.night(all, NONE, 1), 1);
        Check.due("8 as TALL as it was then", all.ofNight(0, 1, 2), 10);
    }

    // "How many NIGHTS a GUEST had a PLACE. UNKNOWN: GUEST, there is no such PLACE."

    private static void p9Unknown() {
        for (int g : new int[] {MIN, -1, 3, 4, 5, MAX}) {
            for (int place : new int[] {-1, 0, 3}) {
                Seen.leavesAll("9 UNKNOWN: GUEST " + g, Ways::lived, t -> t.lay(g, place), -1);
            }
        }
        for (int place : new int[] {MIN, -1, 3, 4, 5, MAX}) {
            for (int g = 0; g < 3; g++) {
                int of = g;
                Seen.leavesAll("9 no such PLACE " + place, Ways::lived, t -> t.lay(of, place), -1);
            }
        }
        Seen.leavesAll("9 UNKNOWN without an inn", Ways::nothing, t -> t.lay(0, 0), -1);
        for (int guests = 2; guests <= 5; guests++) {
            TallTales t = Check.inn("i" + guests + ";t001");
            t.night();
            Check.due("9 the last PLACE of " + guests, t.lay(guests - 1, guests - 1), 1);
            Check.due("9 no such PLACE of " + guests, t.lay(0, guests), -1);
        }
    }

    private static void p9None() {
        TallTales t = new TallTales();
        Ways.bare(t);
        for (int g = 0; g < 3; g++) {
            for (int place = 0; place < 3; place++) Check.due("9 no NIGHT is over", t.lay(g, place), 0);
        }
        t.night();
        for (int g = 0; g < 3; g++) {
            for (int place = 0; place < 3; place++) Check.due("9 one NIGHT", t.lay(g, place), g == place ? 1 : 0);
        }
    }

    private static void p9Sixty() {
        TallTales t = new TallTales();
        Ways.full(t);
        int[][] due = {{30, 30, 0}, {30, 30, 0}, {0, 0, 60}};
        for (int g = 0; g < 3; g++) {
            for (int place = 0; place < 3; place++) Check.due("9 of sixty", t.lay(g, place), due[g][place]);
        }
        Check.due("9 half of them undone", t.undo(31), 29);
        Check.due("9 the bed", t.lay(1, 0), 15);
        Check.due("9 the bench", t.lay(1, 1), 14);
    }
}
