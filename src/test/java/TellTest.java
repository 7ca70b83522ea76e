/** Promises 23 to 26 and 28: telling, swearing, kinds, trace, how many. */
public final class TellTest {
    public static void main(String[] args) {
        promises23And26();
        promises24And26();
        promise26Wraps();
        promise25();
        promise28();
        Check.end("TellTest");
    }

    private static int after(int trace, int... bodies) {
        int t = trace;
        for (int body : bodies) t = 31 * t + body;
        return t;
    }

    private static void promises23And26() {
        TallTales t = new TallTales();
        Check.due("23 without an inn", t.tell(0), -1);
        Check.due("26 at first", t.trace(), 0);
        Check.due("23 inn", Check.open(t, "i2;t047;g147;w047"), 3);
        Check.due("23 plain", t.tell(0), 47);
        Check.due("26 plain", t.trace(), 1);
        Check.due("23 grown", t.tell(1), 147);
        Check.due("26 grown", t.trace(), after(1, 2, 1));
        Check.due("23 true", t.tell(2), 194);
        Check.due("26 true", t.trace(), after(1, 2, 1, 3, 2, 1, 1));
        Check.due("23 tale 3", t.tell(3), -1);
        Check.due("23 tale -1", t.tell(-1), -1);
        Check.due("26 refused ones leave no trace", t.trace(), after(1, 2, 1, 3, 2, 1, 1));
        Check.night(t, TallTales.NONE, 1);
        Check.due("23 as often as it was told", t.tell(1), 147);
        Check.due("23 it counts no night", t.ofTale(1, 3), 1);
    }

    private static void promises24And26() {
        TallTales t = new TallTales();
        Check.due("24 without an inn", t.swear(0), -1);
        Check.due("24 inn", Check.open(t, "i3;w247;t247;g147;w047;g001"), 5);
        int[] due = {30, 1, 2, 30, 4};
        int[] body = {5, 4, 4, 5, 4};
        int trace = 0;
        for (int x = 0; x < 5; x++) {
            Check.due("24 swear " + x, t.swear(x), due[x]);
            trace = after(trace, body[x]);
            Check.due("26 swear " + x, t.trace(), trace);
        }
        Check.due("24 tale 5", t.swear(5), -1);
        Check.due("24 tale -1", t.swear(-1), -1);
        Check.due("26 as it was", t.trace(), trace);
    }

    private static void promise26Wraps() {
        TallTales t = Check.inn("i2;w010");
        int trace = 0;
        for (int n = 0; n < 20; n++) {
            t.tell(0);
            trace = after(trace, 3, 2, 1, 1);
            Check.due("26 it wraps", t.trace(), trace);
        }
        Check.due("26 a new inn", Check.open(t, "i2;t010"), 1);
        Check.due("26 stays", t.trace(), trace);
    }

    private static void promise25() {
        TallTales t = new TallTales();
        Check.due("25 without an inn", t, t.as(0, 7), -1, 0);
        Check.due("25 inn", Check.open(t, "i2;t047;g147;w047"), 3);
        for (int x = 0; x < 3; x++) {
            for (int kind = 0; kind < 3; kind++) {
                boolean is = kind <= x;
                Check.due("25 as(" + x + ", " + kind + ")", t, t.as(x, kind), is ? 1 : -12, is ? 0 : 2);
            }
            Check.due("25 kind 3", t, t.as(x, 3), -2, 0);
            Check.due("25 kind -1", t, t.as(x, -1), -2, 0);
        }
        Check.due("25 tale 3", t, t.as(3, 3), -1, 0);
        Check.due("25 tale -1", t, t.as(-1, 0), -1, 0);
    }

    private static void promise28() {
        TallTales t = new TallTales();
        for (int what = 0; what < 4; what++) Check.due("28 at first", t.many(what), 0);
        Check.due("28 inn", Check.open(t, "i4;t047;g147;w047"), 3);
        t.night();
        t.night();
        int[] due = {4, 3, 2, 99};
        for (int what = 0; what < 4; what++) Check.due("28 many " + what, t.many(what), due[what]);
        t.memory(0);
        Check.due("28 memory", t.many(3), 0);
        Check.due("28 -1", t.many(-1), -2);
        Check.due("28 4", t.many(4), -2);
        Check.due("28 far", t.many(Integer.MIN_VALUE), -2);
    }
}
