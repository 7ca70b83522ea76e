/** What the tests share: an answer is compared with the one that is due, and told if it is another one. */
final class Check {
    private static int asked = 0;
    private static int wrong = 0;

    private Check() {
    }

    static void due(String call, long got, long want) {
        asked++;
        if (got == want) return;
        wrong++;
        System.out.println(call + " answered " + got + ", due is " + want);
    }

    static void holds(String what, boolean is) {
        asked++;
        if (is) return;
        wrong++;
        System.out.println("not so: " + what);
    }

    /** A call that names faults: its answer, and what fault() tells then. */
    static void due(String call, TallTales t, long got, long want, int fault) {
        due(call, got, want);
        due("fault() after " + call, t.fault(), fault);
    }

    static void end(String test) {
        System.out.println(test + ": " + asked + " answers, " + wrong + " not as due");
        if (wrong != 0 || asked == 0) System.exit(1);
    }

    static void row(TallTales t, int sheet, int sort, int... cells) {
        due("sheet", t.sheet(sheet, sort, cells.length), 1);
        for (int i = 0; i < cells.length; i++) due("put", t.put(sheet, i, cells[i]), 1);
    }

    static int open(TallTales t, String text) {
        int[] codes = new int[text.length()];
        for (int i = 0; i < codes.length; i++) codes[i] = text.charAt(i);
        row(t, 0, 0, codes);
        return t.inn(0, 0, 0, codes.length);
    }

    /** A new object with an inn. */
    static TallTales inn(String text) {
        TallTales t = new TallTales();
        due("inn " + text, open(t, text), (text.length() - 2) / 5);
        return t;
    }

    /** A night in which the guests tell these (NONE: none). */
    static int night(TallTales t, int... tales) {
        for (int g = 0; g < tales.length; g++) {
            int before = t.choose(g, tales[g]);
            holds("choose(" + g + ", " + tales[g] + ") is taken: " + before, before == TallTales.NONE || before >= 0);
        }
        return t.night();
    }
}
