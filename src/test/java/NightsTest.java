/** Promises 5 to 9: choosing, nights, what was in them, nights undone, who lay where. */
public final class NightsTest {
    private static final int NONE = TallTales.NONE;

    public static void main(String[] args) {
        promise5();
        promise6();
        promise6Full();
        promise7();
        promise8();
        promise9();
        Check.end("NightsTest");
    }

    private static void promise5() {
        TallTales t = Check.inn("i3;t050;g110;t020");
        Check.due("5 first", t.choose(0, 0), NONE);
        Check.due("5 another", t.choose(0, 2), 0);
        Check.due("5 the same", t.choose(0, 2), 2);
        Check.due("5 none", t.choose(0, NONE), 2);
        Check.due("5 none again", t.choose(0, NONE), NONE);
        Check.due("5 guest -1", t.choose(-1, 0), -1);
        Check.due("5 guest 3", t.choose(3, NONE), -1);
        Check.due("5 tale 3", t.choose(0, 3), -1);
        Check.due("5 tale -1", t.choose(0, -1), -1);
        Check.due("5 tale -10", t.choose(0, -10), -1);
        Check.due("5 another's", t.choose(0, 1), -3);
        Check.due("5 a guest without tales", t.choose(2, 0), -3);
        Check.due("5 refused ones change nothing", t.tonight(0, 0), NONE);
        Check.due("5 chosen", t.choose(0, 0), NONE);
        Check.due("5 refused", t.choose(0, 1), -3);
        Check.due("5 as it was", t.tonight(0, 0), 0);
        t.night();
        Check.due("5 nothing is chosen then", t.tonight(0, 0), NONE);
        Check.due("5 it may not be told", t.choose(0, 0), -3);
        // a tale that is chosen stays chosen, whatever memory becomes
        t.memory(0);
        Check.due("5 with a memory of 0", t.choose(0, 0), NONE);
        t.memory(99);
        Check.due("5 still chosen", t.tonight(0, 0), 0);
        t.night();
        Check.due("5 all that are chosen are told", t.ofTale(0, 3), 2);
    }

    private static void promise6() {
        TallTales none = new TallTales();
        Check.due("6 without an inn", none.night(), -3);
        TallTales t = Check.inn("i5;t010;g110;t220;w301;t199");
        Check.due("6 none told", t.night(), 0);
        Check.due("6 only the last", Check.night(t, NONE, NONE, NONE, 3, NONE), 3);
        Check.due("6 like ones: the least number", Check.night(t, 0, 1, NONE, NONE, NONE), 0);
        t.memory(0);
        t.night();
        Check.due("6 grown taller", Check.night(t, 0, 1, NONE, NONE, NONE), 1);
        Check.due("6 the tallest", Check.night(t, 0, NONE, 2, NONE, NONE), 2);
        Check.due("6 none are behind all", Check.night(t, NONE, NONE, 2, NONE, NONE), 2);
        Check.due("6 seven are over", t.many(2), 7);
    }

    private static void promise6Full() {
        TallTales t = Check.inn("i2;g001;t102");
        for (int night = 0; night < 60; night++) {
            if (night % 2 == 0) Check.due("6 choose", t.choose(0, 0), NONE);
            Check.due("6 night " + night, t.night(), 0);
        }
        Check.due("6 full", t.night(), -4);
        Check.due("6 choose", t.choose(1, 1), NONE);
        Check.due("6 still full", t.night(), -4);
        Check.due("6 refused: it stays chosen", t.tonight(1, 0), 1);
        Check.due("6 refused: it was not told", t.ofTale(1, 3), 0);
        Check.due("6 sixty", t.many(2), 60);
        Check.due("6 thirty times", t.ofTale(0, 3), 30);
        Check.due("6 so tall", t.ofTale(0, 6), 301);
        Check.due("6 of the last", t.ofNight(59, 0, 0), NONE);
        Check.due("6 lay", t.lay(0, 0), 60);
        Check.due("6 undo", t.undo(1), 59);
        Check.due("6 again", t.night(), 0);
        Check.due("6 full again", t.night(), -4);
    }

    private static void promise7() {
        TallTales t = Check.inn("i4;t150;g240;w301;t330");
        Check.due("7 no night is over", t.ofNight(0, 0, 0), -1);
        Check.night(t, NONE, 0, 1, 3);
        Check.night(t, NONE, NONE, NONE, 2);
        t.night();
        Check.night(t, NONE, NONE, 1, NONE);
        int[][] told = {{NONE, 0, 1, 3}, {NONE, NONE, NONE, 2}, {NONE, NONE, NONE, NONE}, {NONE, NONE, 1, NONE}};
        int[][] place = {{3, 0, 1, 2}, {1, 2, 3, 0}, {0, 1, 2, 3}, {1, 2, 0, 3}};
        int[][] tall = {{0, 50, 40, 30}, {0, 0, 0, 901}, {0, 0, 0, 0}, {0, 0, 50, 0}};
        for (int night = 0; night < 4; night++) {
            for (int g = 0; g < 4; g++) {
                String at = "(" + night + ", " + g + ")";
                Check.due("7 told " + at, t.ofNight(night, g, 0), told[night][g]);
                Check.due("7 place " + at, t.ofNight(night, g, 1), place[night][g]);
                Check.due("7 tall " + at, t.ofNight(night, g, 2), tall[night][g]);
            }
        }
        Check.due("7 what 3", t.ofNight(0, 0, 3), -2);
        Check.due("7 what -1", t.ofNight(0, 0, -1), -2);
        Check.due("7 night 4", t.ofNight(4, 0, 3), -1);
        Check.due("7 night -1", t.ofNight(-1, 0, 0), -1);
        Check.due("7 guest 4", t.ofNight(0, 4, 3), -1);
        Check.due("7 guest -1", t.ofNight(0, -1, 0), -1);
    }

    private static void promise8() {
        TallTales t = new TallTales();
        Check.due("8 without an inn", t.undo(0), 0);
        Check.due("8 one without an inn", t.undo(1), -2);
        Check.due("8 inn", Check.open(t, "i2;g010;t120;w130"), 3);
        Check.night(t, 0, 1);
        Check.night(t, NONE, 2);
        Check.night(t, 0, NONE);
        Check.due("8 tall", t.ofTale(0, 6), 30);
        Check.due("8 -1", t.undo(-1), -2);
        Check.due("8 more than are over", t.undo(4), -2);
        Check.due("8 far", t.undo(Integer.MIN_VALUE), -2);
        t.memory(0);
        Check.due("8 chosen", t.choose(1, 1), NONE);
        Check.due("8 refused: it stays chosen", t.undo(4), -2);
        Check.due("8 refused: it stays chosen", t.tonight(1, 0), 1);
        Check.due("8 none of them", t.undo(0), 3);
        Check.due("8 nothing is chosen then", t.tonight(1, 0), NONE);
        t.choose(1, 1);
        Check.due("8 one", t.undo(1), 2);
        Check.due("8 nothing is chosen", t.tonight(1, 0), NONE);
        Check.due("8 told less often", t.ofTale(0, 3), 1);
        Check.due("8 the last time before", t.ofTale(0, 4), 0);
        Check.due("8 less tall", t.ofTale(0, 6), 20);
        Check.due("8 it may be told", t.ofTale(0, 5), 1);
        Check.due("8 that night is not over", t.ofNight(2, 0, 0), -1);
        Check.due("8 the true one is told still", t.ofTale(2, 5), 0);
        Check.due("8 memory stays", t.many(3), 0);
        Check.due("8 lay", t.lay(0, 0), 0);
        Check.due("8 two", t.undo(2), 0);
        for (int x = 0; x < 3; x++) {
            Check.due("8 never told", t.ofTale(x, 3), 0);
            Check.due("8 no last time", t.ofTale(x, 4), NONE);
            Check.due("8 may be told", t.ofTale(x, 5), 1);
        }
        Check.due("8 none is over", t.undo(1), -2);
        Check.due("8 another night", Check.night(t, 0, 2), 1);
        Check.due("8 told so", t.ofNight(0, 1, 0), 2);
    }

    private static void promise9() {
        TallTales t = Check.inn("i3;t050;g110;t220");
        for (int g = 0; g < 3; g++) for (int p = 0; p < 3; p++) Check.due("9 no night", t.lay(g, p), 0);
        Check.night(t, NONE, 1, 2);
        Check.night(t, 0, NONE, NONE);
        t.night();
        // 2 1 0, then 0 1 2 twice
        int[][] due = {{2, 0, 1}, {0, 3, 0}, {1, 0, 2}};
        for (int g = 0; g < 3; g++) {
            for (int p = 0; p < 3; p++) Check.due("9 lay(" + g + ", " + p + ")", t.lay(g, p), due[g][p]);
        }
        Check.due("9 guest 3", t.lay(3, 0), -1);
        Check.due("9 guest -1", t.lay(-1, 0), -1);
        Check.due("9 place 3", t.lay(0, 3), -1);
        Check.due("9 place -1", t.lay(0, -1), -1);
        t.undo(3);
        Check.due("9 undone", t.lay(0, 0), 0);
    }
}
