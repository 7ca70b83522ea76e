/** Promises 1 to 4, sentence by sentence: the bounds that each names, and what is refused. */
public final class InnBoundsTest {
    private static final int NONE = TallTales.NONE, MIN = Integer.MIN_VALUE, MAX = Integer.MAX_VALUE;
    private static final String TEN = "i5;t001;g199;w210;t309;g490;w001;t102;g203;w304;t405";

    public static void main(String[] args) {
        p1NoInn();
        p1SheetsHaveNothing();
        p2Refused();
        p2Faults();
        p2NotAllCellsAreThere();
        p2EachCodeInEachPlace();
        p2EndsTooSoon();
        p2OneToTenTales();
        p2GuestsDigits();
        p2OwnersDigits();
        p2Heights();
        p2CodesAsTheyStand();
        p2MakesAllAnew();
        p2NoTextChangesNothing();
        p3Refused();
        p3NeverTold();
        p3PlainMayBeTold();
        p3TheLastTime();
        p3GrownMayBeTold();
        p3TrueMayBeTold();
        p3Tall();
        p4Bounds();
        p4Refused();
        Check.end("InnBoundsTest");
    }

    // "No INN (no GUESTS, TALES), SHEETS have nothing."

    private static void p1NoInn() {
        TallTales t = new TallTales();
        for (int what = 0; what < 4; what++) Check.due("1 no INN: many " + what, t.many(what), 0);
        for (int n = 0; n < 5; n++) {
            Check.due("1 no GUESTS", t.tonight(n, 0), -1);
            Check.due("1 no GUESTS", t.choose(n, NONE), -1);
            Check.due("1 no TALES", t.ofTale(n, 0), -1);
            Check.due("1 no TALES", t.as(n, 0), -1);
            Check.due("1 no NIGHTS", t.ofNight(n, 0, 0), -1);
        }
        Check.due("1 no INN", t.night(), -3);
        Check.due("1 TRACE 0 at first", t.trace(), 0);
        Check.due("1 0 ahead of any", t.fault(), 0);
    }

    private static void p1SheetsHaveNothing() {
        TallTales t = new TallTales();
        for (int k = 0; k < 4; k++) {
            for (int sort = 0; sort < 3; sort++) {
                Check.due("1 nothing", t, t.cell(k, 0, sort), TallTales.LOST, 1);
                Check.due("1 nothing", t, t.inn(k, sort, 0, 0), -11, 1);
            }
            Check.due("1 nothing", t, t.put(k, 0, 1), -11, 1);
            Check.due("1 nothing", t, t.copy(k, 0, k, 0, 0), -11, 1);
            Check.due("1 nothing", t.lose(k), 0);
        }
    }

    // "UNKNOWN; OUTSIDE: sort; FAULTS CAST (nothing is no CAST), NULL, SIZE: n is below 0, INDEX: not all cells are
    // there; -100 less it." What comes later in the line is wrong in these calls, too.

    private static void p2Refused() {
        for (int k : new int[] {MIN, -1, 4, 5, MAX}) {
            Seen.leavesAll("2 UNKNOWN " + k, Ways::lived, t -> t.inn(k, 3, -1, -1), -1, 0);
            Seen.leavesAll("2 UNKNOWN " + k + " without an inn", Ways::nothing, t -> t.inn(k, 3, -1, -1), -1, 0);
        }
        for (int sort : new int[] {MIN, -1, 3, MAX}) {
            Seen.leavesAll("2 OUTSIDE " + sort, Ways::lived, t -> t.inn(0, sort, -1, -1), -2, 0);
            Seen.leavesAll("2 OUTSIDE " + sort + ", nothing there", Ways::lived, t -> t.inn(3, sort, -1, -1), -2, 0);
        }
        for (int k = 0; k < 4; k++) {
            TallTales t = new TallTales();
            for (int sort = 0; sort < 3; sort++) {
                Check.row(t, k, sort, 'i', '2', ';', 't', '0', '0', '1');
                Check.due("2 each SHEET and SORT is taken", t, t.inn(k, sort, 0, 7), 1, 0);
            }
        }
    }

    private static void p2Faults() {
        for (int sort = 0; sort < 3; sort++) {
            int of = sort;
            Seen.leavesAll("2 nothing is no CAST", Ways::lived, t -> t.inn(3, of, -1, -1), -11, 1);
            if (sort != 0) Seen.leavesAll("2 CAST from bytes", Ways::lived, t -> t.inn(0, of, -1, -1), -12, 2);
            if (sort != 1) Seen.leavesAll("2 CAST from shorts", Ways::lived, t -> t.inn(1, of, -1, -1), -12, 2);
            if (sort != 2) Seen.leavesAll("2 CAST from ints", Ways::lived, t -> t.inn(2, of, -1, -1), -12, 2);
        }
        Seen.leavesAll("2 CAST of what would be a text", Ways::lived, t -> t.inn(0, 1, 0, 22), -12, 2);
        Seen.leavesAll("2 SIZE -1, ahead of INDEX", Ways::lived, t -> t.inn(0, 0, -1, -1), -14, 4);
        Seen.leavesAll("2 SIZE of the least number", Ways::lived, t -> t.inn(0, 0, 0, MIN), -14, 4);
        Seen.leavesAll("2 n 0 is no SIZE", Ways::lived, t -> t.inn(0, 0, 0, 0), -100, 0);
    }

    private static void p2NotAllCellsAreThere() {
        int[][] beyond = {
            {-1, 22}, {-1, 1}, {-1, 0}, {MIN, 0}, {MIN, MAX}, {1, 22}, {0, 23}, {21, 2}, {22, 1}, {23, 0}, {23, 1}, {60, 0},
            {MAX, 0}, {MAX, 1}, {MAX, MAX}, {1, MAX}, {22, MAX}};
        for (int[] in : beyond) {
            Seen.leavesAll("2 INDEX " + in[0] + " " + in[1], Ways::lived, t -> t.inn(0, 0, in[0], in[1]), -13, 3);
        }
        Seen.leavesAll("2 none is taken at the end", Ways::lived, t -> t.inn(0, 0, 22, 0), -100, 0);
        TallTales t = new TallTales();
        Check.due("2 all cells are there", t, Check.open(t, Ways.TEXT), 4, 0);
        Check.due("2 a row of none", t.sheet(1, 0, 0), 1);
        Check.due("2 none of none", t, t.inn(1, 0, 0, 0), -100, 0);
        Check.due("2 one of none", t, t.inn(1, 0, 0, 1), -13, 3);
        // the last cells of the longest row
        Check.due("2 sixty", t.sheet(3, 1, 60), 1);
        for (int c = 0; c < TEN.length(); c++) t.put(3, 8 + c, TEN.charAt(c));
        Check.due("2 the last of sixty", t, t.inn(3, 1, 8, 52), 10, 0);
        Check.due("2 one beyond sixty", t, t.inn(3, 1, 8, 53), -13, 3);
        Check.due("2 all sixty", t, t.inn(3, 1, 0, 60), -100, 0);
    }

    // "FIRST FAULT: the place (from 0 on) of the first code with which no TEXT goes on"

    private static void p2EachCodeInEachPlace() {
        String text = "i4;t310;g025;w299";
        String[] go = {
            "i", "2345", ";", "tgw", "0123", "0123456789", "0123456789", ";", "tgw", "0123", "0123456789", "0123456789",
            ";", "tgw", "0123", "0123456789", "0123456789"};
        for (int p = 0; p < text.length(); p++) {
            for (int from = -128; from < 128; from += 128) eachCode(text, p, go[p], from);
        }
    }

    private static void eachCode(String text, int p, String go, int from) {
        TallTales t = new TallTales();
        Check.open(t, text);
        for (int code = from; code < from + 128; code++) {
            t.put(0, p, code);
            int due = go.indexOf(code) < 0 ? -100 - p : 3;
            // the guest's digit 3 is none of two or three; 00 is no height
            if (p == 1 && (code == '2' || code == '3')) due = -104;
            if (p == 5 && code == '0') due = -105;
            Check.due("2 code " + code + " in place " + p, t.inn(0, 0, 0, text.length()), due);
            if (p == 1 && due == 3) Check.due("2 GUESTS", t.many(0), code - '0');
            t.put(0, p, text.charAt(p));
        }
        Check.due("2 the text as it was", t, t.inn(0, 0, 0, text.length()), 3, 0);
    }

    // "how many codes there are, if it just ends too soon"

    private static void p2EndsTooSoon() {
        TallTales t = new TallTales();
        Check.due("2 all", Check.open(t, TEN), 10);
        for (int n = 0; n <= TEN.length(); n++) {
            boolean ends = n > 2 && n % 5 == 2;
            Check.due("2 it ends behind " + n, t, t.inn(0, 0, 0, n), ends ? (n - 2) / 5 : -100 - n, 0);
        }
        // it ends behind 0, so it is no 00 yet
        TallTales zero = new TallTales();
        Check.due("2 it ends behind 0", Check.open(zero, "i2;t00"), -106);
        Check.due("2 it ends behind the second text's 0", Check.open(zero, "i2;t001;t00"), -111);
        // what is there beyond n is no matter, nor what an earlier text had there
        for (String more : new String[] {"0", "1", "x"}) {
            Check.due("2 the whole text", Check.open(zero, "i2;t00" + more), more.equals("1") ? 1 : more.equals("0") ? -105 : -106);
            Check.due("2 it ends behind 0, " + more + " is beyond", zero.inn(0, 0, 0, 6), -106);
            Check.due("2 it ends behind 0, " + more + " was beyond", Check.open(zero, "i2;t00"), -106);
        }
    }

    // "then 1 to 10 TALES" "(the ; of an eleventh TALE)"

    private static void p2OneToTenTales() {
        TallTales t = new TallTales();
        Check.due("2 no TALE", Check.open(t, "i2"), -102);
        Check.due("2 one TALE", Check.open(t, "i2;t001"), 1);
        Check.due("2 ten TALES", Check.open(t, TEN), 10);
        for (String more : new String[] {";", ";t001", ";x", "x", ";;", ";t000", "i2;t001"}) {
            TallTales eleven = new TallTales();
            Check.due("2 an eleventh: " + more, eleven, Check.open(eleven, TEN + more), -152, 0);
            Check.due("2 it was not taken", eleven.many(1), 0);
        }
    }

    // "a digit 2 .. 5 (GUESTS, numbered from 0 on)"

    private static void p2GuestsDigits() {
        String[] texts = {"i0;t001", "i1;t001", "i6;t001", "i9;t001", "i/;t001", "i:;t001"};
        for (String text : texts) {
            TallTales t = new TallTales();
            Check.due("2 " + text, t, Check.open(t, text), -101, 0);
            Check.due("2 no INN by it", t.many(0), 0);
        }
        for (int guests = 2; guests <= 5; guests++) {
            TallTales t = Check.inn("i" + guests + ";t001");
            Check.due("2 GUESTS", t.many(0), guests);
            Check.due("2 the first GUEST", t.tonight(0, 0), NONE);
            Check.due("2 the last GUEST", t.tonight(guests - 1, 0), NONE);
            Check.due("2 one beyond", t.tonight(guests, 0), -1);
            Check.due("2 one ahead", t.tonight(-1, 0), -1);
        }
    }

    // "a digit (the GUEST whose it is)" "(a GUEST's digit that is none"

    private static void p2OwnersDigits() {
        for (int guests = 2; guests <= 5; guests++) {
            for (int owner = 0; owner <= 9; owner++) {
                TallTales t = new TallTales();
                int due = owner < guests ? 2 : -109;
                Check.due("2 GUEST " + owner + " of " + guests, Check.open(t, "i" + guests + ";t001;g" + owner + "15"), due);
                if (due == 2) Check.due("2 whose it is", t.ofTale(1, 1), owner);
            }
        }
    }

    // "two digits 01 .. 99 (HEIGHT)" "of 00 the first digit"

    private static void p2Heights() {
        for (int height = 0; height <= 99; height++) {
            TallTales t = new TallTales();
            String text = "i3;w27" + height % 10 + ";t1" + height / 10 + height % 10;
            Check.due("2 HEIGHT " + height, t, Check.open(t, text), height == 0 ? -110 : 2, 0);
            if (height != 0) Check.due("2 HEIGHT", t.ofTale(1, 2), height);
        }
        TallTales t = new TallTales();
        Check.due("2 of 00 the first digit, whatever is behind", Check.open(t, "i3;t100x"), -105);
        Check.due("2 of 00 the first digit, in the first of two", Check.open(t, "i3;t100;t100"), -105);
        Check.due("2 0 and no digit: that one", Check.open(t, "i3;t10;"), -106);
        Check.due("2 a fault ahead of 00", Check.open(t, "i3;t300"), -104);
    }

    // "taken as a row of a SORT": codes are compared as they stand, cut to the row's own sort alone

    private static void p2CodesAsTheyStand() {
        for (int p = 0; p < 7; p++) {
            int[] codes = {'i', '2', ';', 't', '0', '0', '1'};
            codes[p] += 256;
            codesAsTheyStand(codes, 1, -100 - p, -100 - p);
            codes[p] += 65536 - 256;
            codesAsTheyStand(codes, 1, 1, -100 - p);
            codes[p] -= 2 * 65536;
            codesAsTheyStand(codes, 1, 1, -100 - p);
        }
    }

    private static void codesAsTheyStand(int[] codes, int... due) {
        TallTales t = new TallTales();
        for (int sort = 0; sort < 3; sort++) {
            Check.row(t, sort, sort, codes);
            Check.due("2 codes in sort " + sort, t, t.inn(sort, sort, 0, 7), due[sort], 0);
        }
    }

    // "A TEXT that is taken makes all anew, but for the SHEETS and TRACE: no NIGHT is over, nothing is CHOSEN, MEMORY 99."

    private static void p2MakesAllAnew() {
        TallTales t = new TallTales();
        Ways.lived(t);
        int trace = t.trace();
        Check.due("2 the same text again", t, t.inn(0, 0, 0, 22), 4, 0);
        int[] many = {3, 4, 0, 99};
        for (int what = 0; what < 4; what++) Check.due("2 anew: many " + what, t.many(what), many[what]);
        for (int x = 0; x < 4; x++) {
            Check.due("2 anew: never told", t.ofTale(x, 3), 0);
            Check.due("2 anew: no last time", t.ofTale(x, 4), NONE);
            Check.due("2 anew: it MAY be told", t.ofTale(x, 5), 1);
        }
        Check.due("2 anew: as tall as at first", t.ofTale(1, 6), 10);
        for (int g = 0; g < 3; g++) {
            Check.due("2 anew: nothing is CHOSEN", t.tonight(g, 0), NONE);
            Check.due("2 anew: no NIGHT is over", t.ofNight(0, g, 0), -1);
            for (int place = 0; place < 3; place++) Check.due("2 anew: lay", t.lay(g, place), 0);
        }
        Check.due("2 TRACE stays", t.trace(), trace);
        Check.due("2 SHEETS stay", t.cell(1, 2, 1), 9);
        Check.due("2 SHEETS stay", t.cell(2, 59, 2), -1);
        Check.due("2 SHEETS stay", t.cell(0, 21, 0), '9');
        Check.due("2 SHEETS stay", t.lose(3), 0);
        Check.due("2 fewer GUESTS and TALES", Check.open(t, "i2;g104"), 1);
        Check.due("2 no such GUEST now", t.tonight(2, 0), -1);
        Check.due("2 no such TALE now", t.ofTale(1, 0), -1);
        Check.due("2 its kind now", t.ofTale(0, 0), 1);
        Check.due("2 whose it is now", t.ofTale(0, 1), 1);
        Check.due("2 its HEIGHT now", t.ofTale(0, 2), 4);
        Check.due("2 more of them", Check.open(t, TEN), 10);
        Check.due("2 the last one", t.ofTale(9, 2), 5);
        Check.due("2 never chosen", t.tonight(4, 0), NONE);
    }

    private static void p2NoTextChangesNothing() {
        Seen.leavesAll("2 it ends too soon", Ways::lived, t -> t.inn(0, 0, 0, 21), -121, 0);
        Seen.leavesAll("2 the first code", Ways::lived, t -> t.inn(0, 0, 1, 21), -100, 0);
        Seen.leavesAll("2 no code", Ways::lived, t -> t.inn(0, 0, 3, 0), -100, 0);
        Seen.leavesAll("2 a late fault", t -> {
            Ways.lived(t);
            t.put(0, 21, 'x');
        }, t -> t.inn(0, 0, 0, 22), -121, 0);
        Seen.leavesAll("2 other GUESTS, a fault behind", t -> {
            Ways.lived(t);
            t.put(0, 1, '5');
            t.put(0, 19, '9');
        }, t -> t.inn(0, 0, 0, 22), -119, 0);
        Seen.leavesAll("2 without an inn", Ways::nothing, t -> t.inn(0, 0, 0, 0), -11, 1);
    }

    // "Of a TALE: 0 kind .. 6 how TALL it is TONIGHT. UNKNOWN; OUTSIDE."

    private static void p3Refused() {
        for (int x : new int[] {MIN, NONE, -1, 4, 9, 10, MAX}) {
            for (int what : new int[] {-1, 0, 6, 7}) {
                Seen.leavesAll("3 UNKNOWN " + x, Ways::lived, t -> t.ofTale(x, what), -1);
            }
        }
        for (int what : new int[] {MIN, -1, 7, MAX}) {
            for (int x = 0; x < 4; x++) {
                int of = x;
                Seen.leavesAll("3 OUTSIDE " + what, Ways::lived, t -> t.ofTale(of, what), -2);
            }
        }
        for (int what = -1; what < 8; what++) {
            int of = what;
            Seen.leavesAll("3 no TALES without an inn", Ways::nothing, t -> t.ofTale(0, of), -1);
        }
        Seen.leavesAll("3 it is only told", Ways::lived, t -> t.ofTale(0, 6), 50);
    }

    private static void p3NeverTold() {
        TallTales t = Check.inn(TEN);
        String kinds = "tgw";
        for (int x = 0; x < 10; x++) {
            String tale = TEN.substring(3 + x * 5, 7 + x * 5);
            int kind = kinds.indexOf(tale.charAt(0));
            int height = Integer.parseInt(tale.substring(2));
            int[] due = {kind, tale.charAt(1) - '0', height, 0, NONE, 1, kind == 2 ? height + 900 : height};
            for (int what = 0; what < 7; what++) {
                Check.due("3 never told: " + tale + " " + what, t.ofTale(x, what), due[what]);
            }
        }
    }

    // "if it was never told, or the last time in a NIGHT x such that TONIGHT is x and 1 and MEMORY or later"

    private static void p3PlainMayBeTold() {
        for (int x : new int[] {0, 3}) {
            for (int memory : new int[] {0, 1, 2, 10, 54, 55, 56, 57, 58, 59, 60, 99}) plainMayBeTold(x, memory);
        }
    }

    private static void plainMayBeTold(int x, int memory) {
        TallTales t = Check.inn("i2;t040;t130");
        for (int night = 0; night < x; night++) t.night();
        Check.due("3 memory", t.memory(memory), 99);
        Check.night(t, 0, NONE);
        for (int tonight = x + 1; tonight <= 60; tonight++) {
            String call = "3 told in " + x + ", MEMORY " + memory + ", TONIGHT " + tonight;
            Check.due(call, t.ofTale(0, 5), tonight >= x + 1 + memory ? 1 : 0);
            Check.due("3 the one that was never told", t.ofTale(1, 5), 1);
            if (tonight < 60) t.night();
        }
    }

    private static void p3TheLastTime() {
        TallTales t = Check.inn("i2;t040;t130");
        t.memory(0);
        Check.night(t, 0, NONE);
        Check.night(t, NONE, NONE);
        Check.night(t, 0, NONE);
        t.memory(2);
        int[] due = {0, 0, 1};
        for (int n = 0; n < 3; n++) {
            Check.due("3 told in 0 and 2, MEMORY 2, TONIGHT " + (3 + n), t.ofTale(0, 5), due[n]);
            Check.due("3 twice", t.ofTale(0, 3), 2);
            Check.due("3 the last time", t.ofTale(0, 4), 2);
            t.night();
        }
        // MEMORY as it is now counts, not as it was in that night
        t.memory(99);
        Check.due("3 MEMORY as it is", t.ofTale(0, 5), 0);
        t.memory(3);
        Check.due("3 MEMORY as it is", t.ofTale(0, 5), 1);
        t.memory(4);
        Check.due("3 MEMORY as it is", t.ofTale(0, 5), 0);
    }

    // "a GROWN one, if it was not told last night"

    private static void p3GrownMayBeTold() {
        for (int memory : new int[] {0, 1, 99}) {
            TallTales t = Check.inn("i2;g040;t130");
            t.memory(memory);
            for (int night = 0; night < 6; night++) {
                Check.due("3 GROWN, not told last night", t.ofTale(0, 5), 1);
                Check.due("3 so tall", t.ofTale(0, 6), 40 + 10 * night);
                Check.night(t, 0, NONE);
                Check.due("3 GROWN, told last night", t.ofTale(0, 5), 0);
                Check.due("3 it is TALLER at once", t.ofTale(0, 6), 50 + 10 * night);
                Check.due("3 in this night", t.ofTale(0, 4), 2 * night);
                t.night();
            }
        }
    }

    // "a TRUE one, if it was never told"

    private static void p3TrueMayBeTold() {
        TallTales t = Check.inn("i2;w040;w130");
        t.memory(0);
        Check.night(t, 0, NONE);
        for (int night = 1; night < 60; night++) {
            Check.due("3 TRUE, told in night 0, TONIGHT " + night, t.ofTale(0, 5), 0);
            Check.due("3 TRUE, never told", t.ofTale(1, 5), 1);
            t.night();
        }
        Check.due("3 TRUE, told in night 0, TONIGHT 60", t.ofTale(0, 5), 0);
        Check.due("3 once", t.ofTale(0, 3), 1);
        t.undo(60);
        Check.due("3 never told, as that night is undone", t.ofTale(0, 5), 1);
    }

    // "TALL TONIGHT: a TALE its HEIGHT; a GROWN one 10 more for each time it was told; a TRUE one 900 more"

    private static void p3Tall() {
        TallTales t = Check.inn("i3;t001;t099;g101;g199;w201;w299");
        int[] at = {1, 99, 1, 99, 901, 999};
        for (int x = 0; x < 6; x++) Check.due("3 TALL at first", t.ofTale(x, 6), at[x]);
        t.memory(0);
        Check.night(t, 0, 2, 4);
        Check.night(t, 0, 3, 5);
        Check.night(t, 0, 2, NONE);
        int[] then = {1, 99, 21, 109, 901, 999};
        for (int x = 0; x < 6; x++) Check.due("3 TALL then", t.ofTale(x, 6), then[x]);
        TallTales full = new TallTales();
        Ways.full(full);
        Check.due("3 told 30 times", full.ofTale(1, 3), 30);
        Check.due("3 300 TALLER", full.ofTale(1, 6), 310);
        Check.due("3 the last time", full.ofTale(1, 4), 58);
        Check.due("3 not last night", full.ofTale(1, 5), 1);
    }

    // "MEMORY becomes v: what it was." "MEMORY (0 .. 99)"

    private static void p4Bounds() {
        TallTales t = Check.inn("i2;t001");
        int was = 99;
        for (int v : new int[] {0, 1, 0, 98, 99, 99, 50}) {
            Check.due("4 what it was", t.memory(v), was);
            Check.due("4 it becomes " + v, t.many(3), v);
            was = v;
        }
    }

    private static void p4Refused() {
        for (int v : new int[] {MIN, -1, 100, MAX}) {
            Seen.leavesAll("4 OUTSIDE " + v, Ways::lived, t -> t.memory(v), -2);
            Seen.leavesAll("4 OUTSIDE ahead of STATE " + v, Ways::nothing, t -> t.memory(v), -2);
        }
        for (int v : new int[] {0, 50, 99}) Seen.leavesAll("4 STATE " + v, Ways::nothing, t -> t.memory(v), -3);
        Seen.leavesAll("4 STATE: no text was taken", t -> Check.open(t, "i2;t00"), t -> t.memory(5), -3);
    }
}
