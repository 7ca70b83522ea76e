/** The calls of many numbers with all edges together, in several states: refusals and faults in their order. */
public final class EdgeTest {
    private static final int MIN = Integer.MIN_VALUE, MAX = Integer.MAX_VALUE;
    private static final int MOST_CALLS = 512;

    private final int state;
    private TallTales t;
    private Model m;
    private int calls;

    private EdgeTest(int state) {
        this.state = state;
        anew();
    }

    public static void main(String[] args) {
        for (int state = 0; state < 4; state++) {
            EdgeTest test = new EdgeTest(state);
            test.oneAndTwoNumbers();
            test.threeNumbers();
            test.inns();
            test.copies();
            test.winters();
            test.toldBys();
        }
        Check.end("EdgeTest");
    }

    /** State 0: nothing; 1: sheets alone; 2: an inn; 3: an inn, nights over, something chosen. */
    private void anew() {
        t = new TallTales();
        m = new Model();
        calls = 0;
        if (state == 0) return;
        String text = "i3;t050;g110;w202;t099";
        sheet(0, 2, text.length());
        for (int i = 0; i < text.length(); i++) put(0, i, text.charAt(i));
        if (state > 1) same("inn", t.inn(0, 2, 0, text.length()), m.inn(0, 2, 0, text.length()));
        sheet(0, 0, 7);
        for (int i = 0; i < 3; i++) put(0, 1 + i, 2 - i);
        sheet(1, 2, 60);
        for (int i = 0; i < 3; i++) put(1, 57 + i, (i + 1) % 3);
        sheet(2, 0, 0);
        if (state < 3) return;
        for (int n = 0; n < 2; n++) {
            same("choose", t.choose(1, 1), m.choose(1, 1));
            same("choose", t.choose(0, n * 3), m.choose(0, n * 3));
            same("night", t.night(), m.night());
        }
        same("memory", t.memory(0), m.memory(0));
        same("choose", t.choose(0, 0), m.choose(0, 0));
    }

    private void sheet(int k, int sort, int n) {
        same("sheet", t.sheet(k, sort, n), m.sheet(k, sort, n));
    }

    private void put(int k, int i, int v) {
        same("put", t.put(k, i, v), m.put(k, i, v));
    }

    private void same(String call, long got, long want) {
        calls += 2;
        Check.due(call, got, want);
        Check.due("fault() after " + call, t.fault(), m.fault);
    }

    private void same(String call, long got, long want, int... numbers) {
        StringBuilder told = new StringBuilder("state " + state + ": " + call + "(");
        for (int n = 0; n < numbers.length; n++) told.append(n == 0 ? "" : ", ").append(numbers[n]);
        same(told.append(")").toString(), got, want);
    }

    private void makeRoom(int of) {
        if (calls > MOST_CALLS - of) anew();
    }

    private static int[] some(int... all) {
        return all;
    }

    private void oneAndTwoNumbers() {
        int[] edges = some(MIN, -10, -9, -8, -2, -1, 0, 1, 2, 3, 4, 5, 6, 7, 10, 59, 60, 99, 100, 999, 1000, MAX);
        for (int a : edges) {
            makeRoom(40);
            same("bishop", t.bishop(a), m.bishop(a), a);
            same("rests", t.rests(a), m.rests(a), a);
            same("tell", t.tell(a), m.tell(a), a);
            same("trace", t.trace(), m.trace);
            same("swear", t.swear(a), m.swear(a), a);
            same("trace", t.trace(), m.trace);
            same("many", t.many(a), m.many(a), a);
            same("undo", t.undo(a), m.undo(a), a);
            same("lose", t.lose(a), m.lose(a), a);
            same("memory", t.memory(a), m.memory(a), a);
        }
        for (int a : edges) {
            for (int b : edges) {
                makeRoom(40);
                same("ofTale", t.ofTale(a, b), m.ofTale(a, b), a, b);
                same("lay", t.lay(a, b), m.lay(a, b), a, b);
                same("tonight", t.tonight(a, b), m.tonight(a, b), a, b);
                same("answer", t.answer(a, b), m.reply(a, b, true), a, b);
                same("borrowed", t.borrowed(a, b), m.reply(a, b, false), a, b);
                same("trade", t.trade(a, b), m.trade(a, b), a, b);
                same("as", t.as(a, b), m.as(a, b), a, b);
                same("choose", t.choose(a, b), m.choose(a, b), a, b);
            }
        }
    }

    private void threeNumbers() {
        int[] edges = some(MIN, -1, 0, 1, 2, 3, 4, 6, 7, 59, 60, 61, MAX);
        for (int a : edges) {
            for (int b : edges) {
                for (int c : edges) {
                    makeRoom(40);
                    same("ofNight", t.ofNight(a, b, c), m.ofNight(a, b, c), a, b, c);
                    same("cell", t.cell(a, b, c), m.cell(a, b, c), a, b, c);
                    same("put", t.put(a, b, c), m.put(a, b, c), a, b, c);
                    same("cell", t.cell(a, b, 2), m.cell(a, b, 2), a, b, 2);
                    same("sheet", t.sheet(a, b, c), m.sheet(a, b, c), a, b, c);
                }
            }
        }
        anew();
    }

    private void inns() {
        for (int k : some(-1, 0, 1, 2, 3, 4)) {
            for (int sort : some(-1, 0, 2, 3)) {
                for (int i : some(MIN, -1, 0, 1, 7, 8, 60, 61, MAX)) {
                    for (int n : some(MIN, -1, 0, 1, 6, 7, 60, MAX)) {
                        makeRoom(4);
                        same("inn", t.inn(k, sort, i, n), m.inn(k, sort, i, n), k, sort, i, n);
                    }
                }
            }
        }
    }

    private void copies() {
        for (int k : some(-1, 0, 1, 2, 3, 4)) {
            for (int other : some(-1, 0, 1, 2, 3, 4)) {
                for (int i : some(MIN, -1, 0, 2, 7, 60, MAX)) {
                    for (int j : some(MIN, -1, 0, 1, 7, 59, MAX)) {
                        for (int n : some(MIN, -1, 0, 1, 5, 60, MAX)) {
                            makeRoom(4);
                            same("copy", t.copy(k, i, other, j, n), m.copy(k, i, other, j, n), k, i, other, j, n);
                        }
                    }
                }
            }
        }
    }

    private void winters() {
        for (int g : some(-1, 0, 2, 3)) {
            for (int k : some(-1, 0, 1, 3, 4)) {
                for (int sort : some(-1, 0, 2, 3)) winters(g, k, sort);
            }
        }
    }

    private void winters(int g, int k, int sort) {
        for (int i : some(-1, 0, 1, 7, 8, 54, 60, MAX)) {
            for (int n : some(MIN, -1, 0, 1, 3, 6, 7, MAX)) {
                for (int q : some(MIN, -9, -2, -1, 0, 2, 3, 5, 6, MAX)) {
                    makeRoom(4);
                    same("winter", t.winter(g, k, sort, i, n, q), m.winter(g, k, sort, i, n, q), g, k, sort, i, n, q);
                }
            }
        }
    }

    private void toldBys() {
        for (int night : some(MIN, -1, 0, 1, 2, MAX)) {
            for (int g : some(-1, 0, 1, 2, 3)) {
                for (int k : some(-1, 0, 1, 2, 3, 4)) {
                    for (int sort : some(-1, 0, 2, 3)) toldBys(night, g, k, sort);
                }
            }
        }
    }

    private void toldBys(int night, int g, int k, int sort) {
        for (int i : some(MIN, -1, 0, 1, 2, 4, 5, 57, 58, 60, MAX)) {
            makeRoom(4);
            same("toldBy", t.toldBy(night, g, k, sort, i), m.toldBy(night, g, k, sort, i), night, g, k, sort, i);
        }
    }
}
