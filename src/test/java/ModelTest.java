/** All promises: many runs of calls, each answer held against Model's. The numbers come from a counted row. */
public final class ModelTest {
    private static final int RUNS = 8000;
    /** No object is used for more calls than the document promises anything about. */
    private static final int MOST_CALLS = 512;
    private static final int[] FAR = {
        Integer.MIN_VALUE, Integer.MIN_VALUE + 1, -1000, -10, -9, -8, -2, -1, 0, 1, 2, 3, 4, 5, 6, 7, 9, 10, 59, 60, 61, 99,
        100, 127, 128, 255, 256, 998, 999, 1000, 32767, 32768, 65536, Integer.MAX_VALUE - 1, Integer.MAX_VALUE};

    private final TallTales t = new TallTales();
    private final Model m = new Model();
    private final StringBuilder run = new StringBuilder();
    private long seed;
    private boolean wild;
    private int calls;

    private ModelTest(int number) {
        seed = number * 7919L + 17;
    }

    public static void main(String[] args) {
        for (int number = 0; number < RUNS; number++) {
            if (!new ModelTest(number).agrees(number)) break;
        }
        Check.end("ModelTest");
    }

    private int below(int bound) {
        seed = seed * 6364136223846793005L + 1442695040888963407L;
        return (int) ((seed >>> 33) % bound);
    }

    private boolean chance(int percent) {
        return below(100) < percent;
    }

    /** A number 0 .. bound - 1, at times one beside it, at times one far off. */
    private int around(int bound) {
        if (wild && chance(30)) return FAR[below(FAR.length)];
        return chance(10) ? below(bound + 4) - 2 : below(Math.max(bound, 1));
    }

    private boolean agrees(int number) {
        wild = number % 10 == 0;
        if (chance(95) && !openInn()) return told(number);
        while (calls < MOST_CALLS - 20) {
            if (!call()) return told(number);
        }
        return true;
    }

    private boolean told(int number) {
        System.out.println("run " + number + ":" + run);
        return false;
    }

    private boolean same(String call, long got, long want) {
        run.append(' ').append(call).append(" = ").append(got).append(';');
        calls += 2;
        int fault = t.fault();
        Check.due(call, got, want);
        Check.due("fault() after " + call, fault, m.fault);
        return got == want && fault == m.fault;
    }

    private boolean put(int k, int i, int v) {
        return same("put(" + k + ", " + i + ", " + v + ")", t.put(k, i, v), m.put(k, i, v));
    }

    private boolean sheet(int k, int sort, int n) {
        return same("sheet(" + k + ", " + sort + ", " + n + ")", t.sheet(k, sort, n), m.sheet(k, sort, n));
    }

    private boolean write(int k, int sort, int[] cells) {
        if (!sheet(k, sort, cells.length)) return false;
        for (int i = 0; i < cells.length; i++) {
            if (!put(k, i, cells[i])) return false;
        }
        return true;
    }

    private boolean openInn() {
        int guests = 2 + below(4);
        int owners = 1 + below(guests);
        int spread = chance(50) ? 99 : 12;
        StringBuilder text = new StringBuilder("i").append(guests);
        for (int x = 1 + below(10); x > 0; x--) {
            int height = 1 + below(spread);
            text.append(';').append("tgw".charAt(below(chance(40) ? 1 : 3))).append(below(owners));
            text.append(height / 10).append(height % 10);
        }
        int[] codes = new int[text.length()];
        for (int i = 0; i < codes.length; i++) codes[i] = text.charAt(i);
        for (int n = chance(20) ? 1 + below(2) : 0; n > 0; n--) {
            codes[below(codes.length)] = "i;tgw0123456789x".charAt(below(16));
        }
        int sort = below(3);
        int n = chance(90) ? codes.length : below(codes.length + 1);
        if (!write(0, sort, codes)) return false;
        return same("inn(0, " + sort + ", 0, " + n + ")", t.inn(0, sort, 0, n), m.inn(0, sort, 0, n));
    }

    private boolean call() {
        int g = around(m.guests);
        int x = around(m.tales.size());
        int y = around(m.tales.size());
        switch (below(26)) {
            case 0: case 1: case 2: case 3: return choose(g, x);
            case 4: case 5: return same("night()", t.night(), m.night());
            case 6: return ofNight(around(m.log.size()), g, around(3));
            case 7: return undo(chance(30) ? around(m.log.size() + 1) : around(2));
            case 8: return same("lay(" + g + ", " + y + ")", t.lay(g, y), m.lay(g, y));
            case 9: return tonight(g, around(3));
            case 10: return answers(g, around(2));
            case 11: return bishop(chance(50) ? around(1000) : around(100));
            case 12: return same("rests(" + (g - 1) + ")", t.rests(g - 1), m.rests(g - 1));
            case 13: case 14: return winter(g);
            case 15: case 16: return same("trade(" + x + ", " + y + ")", t.trade(x, y), m.trade(x, y));
            case 17: case 18: return toldBy(around(m.log.size()), g);
            case 19: return ofTale(x, around(7));
            case 20: return memory(chance(80) ? around(5) : around(100));
            case 21: return parts(x, around(3));
            case 22: return same("many(" + y + ")", t.many(y), m.many(y));
            case 23: return anyCells(around(4), around(4), around(60), around(60));
            default: return fewCells(around(4), around(4), around(6), around(6));
        }
    }

    private boolean choose(int g, int any) {
        int x = any;
        for (int n = 0; n < 6 && chance(95) && m.isGuest(g) && !(m.isTale(x) && m.tales.get(x).owner == g && m.may(x)); n++) {
            x = n == 5 ? Model.NONE : around(m.tales.size());
        }
        return same("choose(" + g + ", " + x + ")", t.choose(g, x), m.choose(g, x));
    }

    private boolean ofNight(int night, int g, int what) {
        return same("ofNight(" + night + ", " + g + ", " + what + ")", t.ofNight(night, g, what), m.ofNight(night, g, what));
    }

    private boolean undo(int k) {
        return same("undo(" + k + ")", t.undo(k), m.undo(k));
    }

    private boolean tonight(int g, int what) {
        return same("tonight(" + g + ", " + what + ")", t.tonight(g, what), m.tonight(g, what));
    }

    private boolean answers(int g, int what) {
        return same("answer(" + g + ", " + what + ")", t.answer(g, what), m.reply(g, what, true))
            && same("borrowed(" + g + ", " + what + ")", t.borrowed(g, what), m.reply(g, what, false));
    }

    private boolean bishop(int tall) {
        return same("bishop(" + tall + ")", t.bishop(tall), m.bishop(tall));
    }

    private boolean ofTale(int x, int what) {
        return same("ofTale(" + x + ", " + what + ")", t.ofTale(x, what), m.ofTale(x, what));
    }

    private boolean memory(int v) {
        return same("memory(" + v + ")", t.memory(v), m.memory(v));
    }

    private boolean winter(int g) {
        int n = 1 + below(chance(30) ? 6 : 4);
        int[] numbers = new int[n];
        for (int i = 0; i < n; i++) numbers[i] = chance(15) ? 900 + below(100) : below(chance(50) ? 30 : 110);
        if (chance(80) && !write(2, 2, numbers)) return false;
        int sort = chance(90) ? 2 : around(3);
        int i = chance(90) ? 0 : around(4);
        int length = chance(90) ? n : around(8);
        for (int q = -1; q < 2; q++) {
            int of = q == 1 ? around(n) : q;
            String call = "winter(" + g + ", 2, " + sort + ", " + i + ", " + length + ", " + of + ")";
            if (!same(call, t.winter(g, 2, sort, i, length, of), m.winter(g, 2, sort, i, length, of))) return false;
        }
        return true;
    }

    private boolean toldBy(int night, int g) {
        int[] row = new int[m.guests];
        for (int p = 0; p < m.guests; p++) row[p] = m.isNight(night) ? m.lieIn(m.log.get(night), night).get(p) : p;
        for (int swaps = below(3); swaps > 0 && m.guests > 0; swaps--) {
            int a = below(m.guests);
            int b = below(m.guests);
            int of = row[a];
            row[a] = row[b];
            row[b] = chance(95) ? of : around(m.guests);
        }
        int sort = below(3);
        if (chance(80) && !write(1, sort, row)) return false;
        int as = chance(90) ? sort : around(3);
        int i = chance(95) ? 0 : around(2);
        String call = "toldBy(" + night + ", " + g + ", 1, " + as + ", " + i + ")";
        return same(call, t.toldBy(night, g, 1, as, i), m.toldBy(night, g, 1, as, i));
    }

    private boolean parts(int x, int kind) {
        return same("tell(" + x + ")", t.tell(x), m.tell(x))
            && same("trace()", t.trace(), m.trace)
            && same("swear(" + x + ")", t.swear(x), m.swear(x))
            && same("trace()", t.trace(), m.trace)
            && same("as(" + x + ", " + kind + ")", t.as(x, kind), m.as(x, kind));
    }

    private boolean fewCells(int k, int other, int i, int j) {
        if (chance(30) && !sheet(k, below(2), around(8))) return false;
        return anyCells(k, other, i, j);
    }

    private boolean anyCells(int k, int other, int i, int j) {
        int n = around(5);
        int sort = around(3);
        int v = chance(30) ? FAR[below(FAR.length)] : below(300) - 150;
        switch (below(6)) {
            case 0: return sheet(k, sort, chance(80) ? j : FAR[below(FAR.length)]);
            case 1: return chance(30) ? same("lose(" + k + ")", t.lose(k), m.lose(k)) : put(k, i, v);
            case 2: return put(k, i, v);
            case 3: return same("cell(" + k + ", " + i + ", " + sort + ")", t.cell(k, i, sort), m.cell(k, i, sort));
            case 4: return same("inn(" + k + ", " + sort + ", " + i + ", " + n + ")", t.inn(k, sort, i, n), m.inn(k, sort, i, n));
            default: return copy(k, i, other, j, n);
        }
    }

    private boolean copy(int k, int i, int other, int j, int n) {
        String call = "copy(" + k + ", " + i + ", " + other + ", " + j + ", " + n + ")";
        return same(call, t.copy(k, i, other, j, n), m.copy(k, i, other, j, n));
    }
}
