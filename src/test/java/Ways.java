/** States that the tests of bounds begin with. */
final class Ways {
    static final String TEXT = "i3;t050;g110;w202;t099";

    private Ways() {
    }

    static void nothing(TallTales t) {
        Check.due("no inn", t.many(0), 0);
    }

    /** An inn of which nothing is told; sheets 1 to 3 have nothing. */
    static void bare(TallTales t) {
        Check.due("inn", Check.open(t, TEXT), 4);
    }

    /**
     * One night is over, in which guest 0 told tale 0 and guest 1 tale 1; memory is 2, guest 2 has chosen tale 2.
     * Sheet 0 has the text in bytes, sheet 1 three shorts, sheet 2 sixty ints, sheet 3 nothing.
     */
    static void lived(TallTales t) {
        bare(t);
        Check.due("night", Check.night(t, 0, 1), 0);
        Check.due("memory", t.memory(2), 99);
        Check.due("choose", t.choose(2, 2), TallTales.NONE);
        Check.due("tell", t.tell(1), 110);
        Check.row(t, 1, 1, 7, 8, 9);
        Check.due("sheet", t.sheet(2, 2, 60), 1);
        Check.due("put", t.put(2, 0, 100000), 1);
        Check.due("put", t.put(2, 59, -1), 1);
    }

    /** All sixty nights are over, in every other one tale 1 was told; guest 0 has chosen tale 0. */
    static void full(TallTales t) {
        bare(t);
        for (int night = 0; night < 60; night++) {
            if (night % 2 == 0) Check.due("choose", t.choose(1, 1), TallTales.NONE);
            Check.due("night " + night, t.night(), night % 2 == 0 ? 1 : 0);
        }
        Check.due("choose", t.choose(0, 0), TallTales.NONE);
    }
}
