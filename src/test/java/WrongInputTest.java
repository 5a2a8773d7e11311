import java.lang.reflect.Method;
import java.lang.reflect.Modifier;

/** Every method with numbers from all over: no call throws, and what is refused changes nothing. */
public final class WrongInputTest {
    private static final int[] ODD = {Integer.MIN_VALUE, -1000, -2, -1, 10, 11, 18, 20, 41, 251, 400, 1024, 65536, Integer.MAX_VALUE - 5, Integer.MAX_VALUE};

    public static void main(String[] args) throws Exception {
        for (Method method : LessonPurses.class.getDeclaredMethods()) {
            if (!Modifier.isPublic(method.getModifiers()) || method.getName().equals("feed")) continue;
            tryAll(method);
        }
        Check.end("WrongInputTest");
    }

    /** Full: ten lessons, eight people. The tape is full, too. */
    private static LessonPurses full() {
        LessonPurses x = new LessonPurses();
        for (int i = 0; i < 10; i++) x.lesson(1, 3 * i, 3 * i + 3);
        for (int i = 0; i < 8; i++) {
            x.person(90 + i, i);
            Check.wish(x, i, "add 9*has 0+8*has 1+7*has 2+6*has 3+5*has 4+count*" + i + ";");
        }
        Check.falsely(x, "add 9*has 1;");
        for (int i = 0; i < 20; i++) x.feed(0, 0, 0, 0, 0);
        return x;
    }

    private static void tryAll(Method method) throws Exception {
        int many = method.getParameterCount();
        LessonPurses empty = new LessonPurses();
        LessonPurses full = full();
        long before = stateOf(full);
        int combinations = (int) Math.pow(ODD.length, many);
        for (int c = 0; c < combinations; c++) {
            Object[] with = new Object[many];
            int rest = c;
            for (int i = 0; i < many; i++) {
                with[i] = ODD[rest % ODD.length];
                rest /= ODD.length;
            }
            method.invoke(empty, with);
            if (!isTold(method.getName(), with)) method.invoke(full, with);
        }
        Check.due(method.getName() + ": a new object, no lessons", empty.count(0), 0);
        Check.due(method.getName() + ": a full one, nothing changed", stateOf(full), before);
    }

    /** Some of the odd numbers are right for some calls. */
    private static boolean isTold(String name, Object[] with) {
        int first = with.length > 0 ? (Integer) with[0] : 0;
        return name.equals("step") && first >= 1 && first <= 50
            || name.equals("settle") && first >= 1 && first <= 60
            || name.equals("falsely") && first >= 0 && first <= 400;
    }

    private static long stateOf(LessonPurses x) {
        long state = 0;
        for (int what = 0; what < 10; what++) state = state * 31 + x.count(what);
        for (int who = 0; who < 8; who++) state = state * 31 + x.worth(who, 1023) + x.has(5, who) + x.has(2, who);
        return state * 31 + x.fault() + x.square();
    }
}
