/** Promises 1 to 4: a new object, the inn by a text, its tales, memory. */
public final class InnTest {
    private static final int NONE = TallTales.NONE;

    public static void main(String[] args) {
        promise1();
        promise2Texts();
        promise2Cells();
        promise2Refused();
        promise2Anew();
        promise3();
        promise3Kinds();
        promise4();
        Check.end("InnTest");
    }

    private static void promise1() {
        TallTales t = new TallTales();
        Check.due("1 fault()", t.fault(), 0);
        Check.due("1 trace()", t.trace(), 0);
        for (int what = 0; what < 4; what++) Check.due("1 many", t.many(what), 0);
        Check.due("1 ofTale", t.ofTale(0, 0), -1);
        Check.due("1 tonight", t.tonight(0, 0), -1);
        for (int k = 0; k < 4; k++) {
            Check.due("1 cell", t, t.cell(k, 0, 0), TallTales.LOST, 1);
            Check.due("1 lose", t.lose(k), 0);
        }
        Check.due("1 night", t.night(), -3);
    }

    private static void text(String text, int due) {
        TallTales t = new TallTales();
        Check.due("2 inn of " + text, t, Check.open(t, text), due, 0);
        Check.due("2 tales of " + text, t.many(1), Math.max(due, 0));
        Check.due("2 guests of " + text, t.many(0), due > 0 ? text.charAt(1) - '0' : 0);
    }

    private static void promise2Texts() {
        text("i2;t001", 1);
        text("i2;t199", 1);
        text("i5;w410", 1);
        text("i4;g390;t001;w209", 3);
        String ten = ";t001;g112;w023;t034;g145;w056;t067;g178;w089;t099";
        text("i2" + ten, 10);
        text("i2" + ten + ";", -152);
        text("i2" + ten + "x", -152);
        text("i2" + ten + ";t001", -152);
        text("", -100);
        text("x", -100);
        text("I2;t001", -100);
        text("i", -101);
        text("i1;t001", -101);
        text("i6;t001", -101);
        text("i0", -101);
        text("i:", -101);
        text("i2", -102);
        text("i2:", -102);
        text("i2;", -103);
        text("i2;T001", -103);
        text("i2;x", -103);
        text("i2;i", -103);
        text("i2;t", -104);
        text("i2;t201", -104);
        text("i5;t501", -104);
        text("i5;t/01", -104);
        text("i2;tt01", -104);
        text("i2;t1", -105);
        text("i2;t100", -105);
        text("i2;t1x1", -105);
        text("i2;t1/1", -105);
        text("i2;t1:1", -105);
        text("i2;t10", -106);
        text("i2;t19", -106);
        text("i2;t10x", -106);
        text("i2;t10/", -106);
        text("i2;t10:", -106);
        text("i2;t10;t001", -106);
        text("i2;t0011", -107);
        text("i2;t001;", -108);
        text("i2;t001;t00", -111);
        text("i2;t001;t000", -110);
        text("i2;t001;g000;g201", -110);
        text("i2;t001;t002;w20", -114);
    }

    private static void promise2Cells() {
        TallTales t = new TallTales();
        int[] codes = {7, 'i', '3', ';', 'g', '2', '4', '7', ';', 't', '0', '0', '5', 9};
        for (int sort = 0; sort < 3; sort++) {
            Check.row(t, sort, sort, codes);
            Check.due("2 inn from 1 on", t, t.inn(sort, sort, 1, 12), 2, 0);
            Check.due("2 one beyond", t.inn(sort, sort, 1, 13), -112);
            Check.due("2 one tale", t.inn(sort, sort, 1, 7), 1);
            Check.due("2 height", t.ofTale(0, 2), 47);
            Check.due("2 from 0 on", t.inn(sort, sort, 0, 14), -100);
        }
        // codes are compared as they stand in the cells: bytes are cut, shorts and ints are not
        int[] high = {'i' + 256, '2', ';', 't', '0', '0', '1'};
        Check.row(t, 3, 0, high);
        Check.due("2 a byte is cut", t.inn(3, 0, 0, 7), 1);
        Check.row(t, 3, 1, high);
        Check.due("2 a short is not cut so", t.inn(3, 1, 0, 7), -100);
        Check.row(t, 3, 2, 'i', '2' + 65536, ';', 't', '0', '0', '1');
        Check.due("2 an int is not cut", t.inn(3, 2, 0, 7), -101);
        Check.row(t, 3, 2, 'i', '2', ';', 't', '0', '0' + 65536, '1');
        Check.due("2 a digit is not cut", t.inn(3, 2, 0, 7), -105);
        Check.row(t, 3, 2, 'i', '2', ';', 't', -48, '0', '1');
        Check.due("2 less than a digit", t.inn(3, 2, 0, 7), -104);
        // the codes that are taken end where n tells, whatever an earlier text had there
        Check.due("2 whole text", Check.open(t, "i2;t010"), 1);
        Check.row(t, 0, 0, 'i', '2', ';', 't', '0', '0');
        Check.due("2 it ends behind 0", t.inn(0, 0, 0, 6), -106);
        Check.due("2 a whole one with 00", Check.open(t, "i2;t000"), -105);
        Check.row(t, 0, 0, 'i', '2', ';', 't', '0', '0');
        Check.due("2 it ends behind 0 again", t.inn(0, 0, 0, 6), -106);
    }

    private static void promise2Refused() {
        TallTales t = new TallTales();
        Check.due("2 sheet -1", t, t.inn(-1, 7, -1, -1), -1, 0);
        Check.due("2 sheet 4", t, t.inn(4, 7, -1, -1), -1, 0);
        Check.due("2 sort -1", t, t.inn(0, -1, -1, -1), -2, 0);
        Check.due("2 sort 3", t, t.inn(0, 3, -1, -1), -2, 0);
        for (int sort = 0; sort < 3; sort++) Check.due("2 nothing", t, t.inn(0, sort, -1, -1), -11, 1);
        Check.due("2 refused behind a fault", t, t.inn(4, 0, 0, 0), -1, 0);
        Check.due("2 sheet", t.sheet(0, 1, 7), 1);
        Check.due("2 cast to bytes", t, t.inn(0, 0, -1, -1), -12, 2);
        Check.due("2 cast to ints", t, t.inn(0, 2, 0, 7), -12, 2);
        Check.due("2 size", t, t.inn(0, 1, -1, -1), -14, 4);
        Check.due("2 size", t, t.inn(0, 1, 99, Integer.MIN_VALUE), -14, 4);
        Check.due("2 index -1", t, t.inn(0, 1, -1, 3), -13, 3);
        Check.due("2 index beyond", t, t.inn(0, 1, 1, 7), -13, 3);
        Check.due("2 index far", t, t.inn(0, 1, Integer.MAX_VALUE, Integer.MAX_VALUE), -13, 3);
        Check.due("2 index long", t, t.inn(0, 1, 1, Integer.MAX_VALUE), -13, 3);
        Check.due("2 none at the end", t, t.inn(0, 1, 7, 0), -100, 0);
        Check.due("2 none beyond the end", t, t.inn(0, 1, 8, 0), -13, 3);
        Check.due("2 none ahead", t, t.inn(0, 1, -1, 0), -13, 3);
        Check.due("2 a row of none", t.sheet(0, 1, 0), 1);
        Check.due("2 none of none", t, t.inn(0, 1, 0, 0), -100, 0);
    }

    private static void promise2Anew() {
        TallTales t = Check.inn("i2;t050;g110");
        Check.due("2 night", Check.night(t, 0, 1), 0);
        Check.due("2 memory", t.memory(3), 99);
        Check.due("2 tell", t.tell(0), 50);
        Check.due("2 choose", t.choose(0, NONE), NONE);
        Check.row(t, 1, 2, 5, 6);
        Check.due("2 a text that is none", Check.open(t, "i3;t050;g11"), -111);
        Check.due("2 as it was: nights", t.many(2), 1);
        Check.due("2 as it was: guests", t.many(0), 2);
        Check.due("2 as it was: memory", t.many(3), 3);
        Check.due("2 as it was: told", t.ofTale(1, 3), 1);
        t.memory(0);
        Check.due("2 choose", t.choose(0, 0), NONE);
        Check.due("2 a text that is none", Check.open(t, "i3;t150;g011;"), -113);
        Check.due("2 as it was: chosen", t.tonight(0, 0), 0);
        Check.due("2 a new text", Check.open(t, "i3;g050;t110;w299"), 3);
        Check.due("2 anew: nights", t.many(2), 0);
        Check.due("2 anew: guests", t.many(0), 3);
        Check.due("2 anew: memory", t.many(3), 99);
        Check.due("2 anew: chosen", t.tonight(0, 0), NONE);
        Check.due("2 anew: told", t.ofTale(0, 3), 0);
        Check.due("2 anew: the last time", t.ofTale(0, 4), NONE);
        Check.due("2 anew: lay", t.lay(0, 0), 0);
        Check.due("2 trace stays", t.trace(), 1);
        Check.due("2 sheets stay", t.cell(1, 1, 2), 6);
        Check.due("2 the text stays", t.cell(0, 0, 0), 'i');
    }

    private static void promise3() {
        TallTales t = Check.inn("i3;t205;g170;w099");
        int[][] due = {{0, 2, 5, 0, NONE, 1, 5}, {1, 1, 70, 0, NONE, 1, 70}, {2, 0, 99, 0, NONE, 1, 999}};
        for (int x = 0; x < 3; x++) {
            for (int what = 0; what < 7; what++) Check.due("3 ofTale(" + x + ", " + what + ")", t.ofTale(x, what), due[x][what]);
        }
        Check.due("3 a night", Check.night(t, 2, 1, 0), 0);
        Check.due("3 a night", Check.night(t, NONE, NONE, NONE), 0);
        Check.due("3 a night", Check.night(t, NONE, 1, NONE), 1);
        int[][] then = {{0, 2, 5, 1, 0, 0, 5}, {1, 1, 70, 2, 2, 0, 90}, {2, 0, 99, 1, 0, 0, 999}};
        for (int x = 0; x < 3; x++) {
            for (int what = 0; what < 7; what++) Check.due("3 then (" + x + ", " + what + ")", t.ofTale(x, what), then[x][what]);
        }
        Check.due("3 what 7", t.ofTale(0, 7), -2);
        Check.due("3 what -1", t.ofTale(0, -1), -2);
        Check.due("3 tale 3", t.ofTale(3, 0), -1);
        Check.due("3 tale -1, ahead of what", t.ofTale(-1, 7), -1);
        Check.due("3 tale NONE", t.ofTale(NONE, 0), -1);
    }

    /** When each kind may be told again. */
    private static void promise3Kinds() {
        TallTales t = Check.inn("i2;t010;g010;w110");
        t.memory(2);
        Check.night(t, 0, 2);
        int[] plain = {0, 0, 0, 1, 1};
        for (int night = 1; night < 5; night++) {
            // told in night 0 with a memory of 2: again from night 3 on
            Check.due("3 plain in night " + night, t.ofTale(0, 5), plain[night]);
            Check.due("3 true in night " + night, t.ofTale(2, 5), 0);
            t.night();
        }
        t.memory(0);
        Check.due("3 plain with a memory of 0", t.ofTale(0, 5), 1);
        Check.night(t, 0, NONE);
        Check.due("3 plain the night after, memory 0", t.ofTale(0, 5), 1);
        t.memory(1);
        Check.due("3 plain the night after, memory 1", t.ofTale(0, 5), 0);
        t.memory(99);
        Check.night(t, 1, NONE);
        Check.due("3 grown the night after", t.ofTale(1, 5), 0);
        Check.due("3 grown is taller", t.ofTale(1, 6), 20);
        t.night();
        Check.due("3 grown two nights after, whatever the memory", t.ofTale(1, 5), 1);
        Check.night(t, 1, NONE);
        Check.due("3 grown is taller again", t.ofTale(1, 6), 30);
        Check.due("3 true is as tall as ever", t.ofTale(2, 6), 910);
        TallTales long1 = Check.inn("i2;t010;t111");
        long1.memory(50);
        Check.night(long1, 0, NONE);
        for (int night = 1; night < 51; night++) {
            Check.due("3 a long memory", long1.ofTale(0, 5), 0);
            long1.night();
        }
        Check.due("3 a long memory ends", long1.ofTale(0, 5), 1);
    }

    private static void promise4() {
        TallTales t = new TallTales();
        Check.due("4 without an inn", t.memory(0), -3);
        Check.due("4 -1 without an inn", t.memory(-1), -2);
        Check.due("4 100 without an inn", t.memory(100), -2);
        Check.due("4 inn", Check.open(t, "i2;t001"), 1);
        Check.due("4 99", t.memory(0), 99);
        Check.due("4 0", t.memory(99), 0);
        Check.due("4 99 again", t.memory(7), 99);
        Check.due("4 -1", t.memory(-1), -2);
        Check.due("4 100", t.memory(100), -2);
        Check.due("4 far", t.memory(Integer.MIN_VALUE), -2);
        Check.due("4 as it was", t.many(3), 7);
    }
}
