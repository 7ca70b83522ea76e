import java.lang.management.ManagementFactory;
import java.lang.reflect.Constructor;
import java.lang.reflect.Field;
import java.lang.reflect.Method;
import java.lang.reflect.Modifier;
import java.util.ArrayList;
import java.util.Collections;
import java.util.List;

/** The public face, and that no call makes an object. What LANGUAGE.md asks of the source is in LanguageTest. */
public final class FormTest {
    private static final String[] FACE = {
        "inn(int,int,int,int)int", "ofTale(int,int)int", "memory(int)int", "choose(int,int)int", "night()int",
        "ofNight(int,int,int)int", "undo(int)int", "lay(int,int)int", "tonight(int,int)int", "answer(int,int)int",
        "borrowed(int,int)int", "bishop(int)int", "rests(int)int", "winter(int,int,int,int,int,int)int", "trade(int,int)int",
        "toldBy(int,int,int,int,int)int", "sheet(int,int,int)int", "lose(int)int", "put(int,int,int)int",
        "cell(int,int,int)long", "copy(int,int,int,int,int)int", "tell(int)int", "swear(int)int", "as(int,int)int",
        "trace()int", "fault()int", "many(int)int"};
    private static final String[] CONSTANTS = {"UNKNOWN", "OUTSIDE", "STATE", "FULL", "NONE", "LOST"};
    /** i3;t050;g110;w202;t099 */
    private static final int[] TEXT = {
        'i', '3', ';', 't', '0', '5', '0', ';', 'g', '1', '1', '0', ';', 'w', '2', '0', '2', ';', 't', '0', '9', '9'};

    public static void main(String[] args) {
        face();
        objects();
        Check.end("FormTest");
    }

    private static String told(Method method) {
        StringBuilder told = new StringBuilder(method.getName()).append('(');
        for (Class<?> type : method.getParameterTypes()) told.append(told.toString().endsWith("(") ? "" : ",").append(type);
        return told.append(')').append(method.getReturnType()).toString();
    }

    private static void face() {
        List<String> due = new ArrayList<>(List.of(FACE));
        List<String> is = new ArrayList<>();
        for (Method method : TallTales.class.getDeclaredMethods()) {
            if (Modifier.isPrivate(method.getModifiers())) continue;
            Check.holds(method + " is public and no static one", method.getModifiers() == Modifier.PUBLIC);
            is.add(told(method));
        }
        Collections.sort(due);
        Collections.sort(is);
        Check.holds("the methods are " + due + ": " + is, is.equals(due));
        List<String> names = new ArrayList<>(List.of(CONSTANTS));
        for (Field field : TallTales.class.getDeclaredFields()) {
            if (Modifier.isPrivate(field.getModifiers())) continue;
            Check.holds(field + " is a constant of the face", names.remove(field.getName()));
            int modifiers = Modifier.PUBLIC | Modifier.STATIC | Modifier.FINAL;
            Check.holds(field + " is public static final", field.getModifiers() == modifiers);
        }
        Check.holds("all constants are there: " + names, names.isEmpty());
        Constructor<?>[] all = TallTales.class.getDeclaredConstructors();
        Check.holds("one public constructor", all.length == 1 && all[0].getModifiers() == Modifier.PUBLIC);
        Check.due("its parameters", all[0].getParameterCount(), 0);
        Check.due("public final class", TallTales.class.getModifiers(), Modifier.PUBLIC | Modifier.FINAL);
        Check.due("UNKNOWN", TallTales.UNKNOWN, -1);
        Check.due("OUTSIDE", TallTales.OUTSIDE, -2);
        Check.due("STATE", TallTales.STATE, -3);
        Check.due("FULL", TallTales.FULL, -4);
        Check.due("NONE", TallTales.NONE, -9);
        Check.due("LOST", TallTales.LOST, Long.MIN_VALUE);
    }

    /** All calls of a run live in one room: what is needed is made with the object, nothing by its calls. */
    private static void objects() {
        useAll(new TallTales());
        TallTales t = new TallTales();
        com.sun.management.ThreadMXBean threads = (com.sun.management.ThreadMXBean) ManagementFactory.getThreadMXBean();
        long own = Thread.currentThread().getId();
        threads.getThreadAllocatedBytes(own);
        long before = threads.getThreadAllocatedBytes(own);
        for (int n = 0; n < 8; n++) useAll(t);
        long made = threads.getThreadAllocatedBytes(own) - before;
        // some 450 calls; asking for the number may itself make something small
        Check.holds("calls make no objects: " + made + " bytes", made < 1000);
    }

    private static void useAll(TallTales t) {
        t.sheet(0, 0, 22);
        for (int i = 0; i < TEXT.length; i++) t.put(0, i, TEXT[i]);
        t.inn(0, 0, 0, TEXT.length);
        t.choose(0, 0);
        t.night();
        t.memory(0);
        t.choose(1, 1);
        t.ofTale(0, 6);
        t.ofNight(0, 0, 1);
        t.lay(0, 0);
        t.tonight(0, 2);
        t.answer(0, 0);
        t.borrowed(0, 1);
        t.bishop(4);
        t.rests(-1);
        t.sheet(1, 2, 6);
        t.winter(0, 1, 2, 0, 6, -1);
        t.put(1, 1, 1);
        t.put(1, 2, 2);
        t.toldBy(0, 0, 1, 2, 0);
        t.trade(0, 1);
        t.copy(1, 0, 1, 1, 4);
        t.cell(1, 0, 2);
        t.tell(2);
        t.swear(2);
        t.as(2, 1);
        t.many(0);
        t.undo(1);
        t.lose(1);
    }
}
