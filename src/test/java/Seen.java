import java.util.ArrayList;
import java.util.List;

/**
 * What a call leaves as it is. Two objects go the same way, one of them makes the call in the end: then all that can be
 * read of them is read of both. An object answers for 512 calls, so each pair is read in part alone.
 */
final class Seen {
    interface Way {
        void go(TallTales t);
    }

    interface Call {
        long of(TallTales t);
    }

    /** The call names no FAULTS: fault() stays what it was. */
    static final int NAMES_NONE = -1;
    private static final int PART = 200;
    private static final int[] FAULTS_BEFORE = {0, 4};
    private static final List<Call> READINGS = readings();

    private Seen() {
    }

    /** A call that answers so, brings this fault (0: none, or refused), and changes nothing else. */
    static void leavesAll(String call, Way way, Call of, long due, int fault) {
        for (int before : FAULTS_BEFORE) {
            answers(call, way, of, due, before, fault);
            for (int from = 0; from < READINGS.size(); from += PART) isSame(call, way, of, from);
        }
    }

    /** A call that names no FAULTS answers so, and changes nothing at all. */
    static void leavesAll(String call, Way way, Call of, long due) {
        leavesAll(call, way, of, due, NAMES_NONE);
    }

    private static void answers(String call, Way way, Call of, long due, int before, int fault) {
        TallTales t = at(way, before);
        Check.due(call, of.of(t), due);
        Check.due("fault() after " + call + ", ahead of it " + before, t.fault(), fault == NAMES_NONE ? before : fault);
    }

    private static void isSame(String call, Way way, Call of, int from) {
        TallTales without = at(way, 0);
        TallTales with = at(way, 0);
        of.of(with);
        int wrong = -1;
        for (int n = from; n < from + PART && n < READINGS.size(); n++) {
            if (READINGS.get(n).of(with) != READINGS.get(n).of(without)) wrong = n;
        }
        Check.due("what is not as it was after " + call + " (a reading's number, -1: none)", wrong, -1);
    }

    private static TallTales at(Way way, int fault) {
        TallTales t = new TallTales();
        way.go(t);
        if (fault == 0) Check.due("as, for no fault", t.as(-1, 0), -1);
        else Check.due("sheet, for a fault", t.sheet(0, 0, -1), -10 - fault);
        return t;
    }

    private static List<Call> readings() {
        List<Call> all = new ArrayList<>();
        all.add(t -> t.trace());
        for (int what = 0; what < 4; what++) readMany(all, what);
        for (int x = 0; x < 10; x++) for (int what = 0; what < 7; what++) readTale(all, x, what);
        for (int g = 0; g < 5; g++) readGuest(all, g);
        for (int night = 0; night < 60; night++) {
            for (int g = 0; g < 5; g++) for (int what = 0; what < 3; what++) readNight(all, night, g, what);
        }
        for (int k = 0; k < 4; k++) {
            for (int sort = 0; sort < 3; sort++) for (int i = 0; i < 60; i++) readCell(all, k, i, sort);
        }
        return all;
    }

    private static void readMany(List<Call> all, int what) {
        all.add(t -> t.many(what));
    }

    private static void readTale(List<Call> all, int x, int what) {
        all.add(t -> t.ofTale(x, what));
    }

    private static void readGuest(List<Call> all, int g) {
        for (int what = 0; what < 3; what++) {
            int of = what;
            all.add(t -> t.tonight(g, of));
        }
        for (int place = 0; place < 5; place++) {
            int of = place;
            all.add(t -> t.lay(g, of));
        }
    }

    private static void readNight(List<Call> all, int night, int g, int what) {
        all.add(t -> t.ofNight(night, g, what));
    }

    /** A cell; where there is none, its fault: whether the sheet has nothing, another sort, or too few. */
    private static void readCell(List<Call> all, int k, int i, int sort) {
        all.add(t -> {
            long cell = t.cell(k, i, sort);
            return cell == TallTales.LOST ? TallTales.LOST + t.fault() : cell;
        });
    }
}
