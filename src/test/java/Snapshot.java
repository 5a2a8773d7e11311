import java.util.function.Supplier;
import java.util.function.ToLongFunction;

/**
 * All that calls can tell of an object. The object is taken apart at the end, so that each number that was told is
 * seen alone, too.
 */
final class Snapshot {
    /** An object is used for 512 calls: those that made it must fit in beside these. */
    private static final int MOST_CALLS = 400;

    private final LessonPurses x;
    private final int lessons;
    private final int people;
    private final StringBuilder text = new StringBuilder();
    private int calls = 2;

    private Snapshot(LessonPurses x) {
        this.x = x;
        lessons = x.count(0);
        people = x.count(1);
    }

    static String of(LessonPurses x) {
        Snapshot s = new Snapshot(x);
        s.told();
        s.bought();
        s.wished();
        s.takeApart();
        if (s.calls > MOST_CALLS) throw new IllegalStateException("too many calls: " + s.calls);
        return s.text.toString();
    }

    /** A call that the document refuses, on an object that is made for it: its answer, and that nothing is changed. */
    static void refused(String call, Supplier<LessonPurses> make, ToLongFunction<LessonPurses> run, long answer) {
        LessonPurses x = make.get();
        Check.due(call, run.applyAsLong(x), answer);
        Check.same(call + " changes nothing", of(x), of(make.get()));
    }

    private void note(String name, long answer) {
        calls++;
        text.append(name).append('=').append(answer).append(' ');
    }

    private void note(String name, boolean answer) {
        note(name, answer ? 1 : 0);
    }

    private void told() {
        for (int what = 0; what < 10; what++) note("count" + what, x.count(what));
        note("fault", x.fault());
        note("judge", x.judge());
        note("square", x.square());
        for (int l = 0; l < lessons; l++) {
            note("over" + l, x.over(l));
            note("left" + l, x.left(5, l));
        }
    }

    private void bought() {
        for (int p = 0; p < people; p++) {
            for (int what = 0; what < 3; what++) note("buys" + p + "," + what, x.buys(p, what));
            note("dear" + p, x.dear(p));
            note("ties" + p, x.ties(p));
            note("mended" + p, x.has(1, p));
            note("turns" + p, x.has(2, p));
            note("hand" + p, x.has(5, p));
            note("gain" + p, x.gain(4, p));
        }
    }

    private void wished() {
        for (int p = 0; p < people; p++) {
            note("worth" + p, x.worth(p, 0));
            for (int l = 0; l < lessons; l++) {
                note("worth" + p + "," + l, x.worth(p, 1 << l));
                if (p < 3) note("bars" + p + "," + l, x.bars(p, 1 << l));
            }
        }
        for (int a = 0; a < lessons && people > 0; a++) {
            for (int b = 0; b < a; b++) note("bars" + a + "," + b, x.bars(0, 1 << a | 1 << b));
        }
    }

    private void takeApart() {
        int bytes = x.count(5);
        if (people > 0) note("wish", x.wish(0, bytes));
        else note("falsely", x.falsely(bytes));
        note("then fault", x.fault());
        for (int l = 0; l < lessons; l++) {
            if (people > 0) note("then worth" + l, x.worth(0, 1 << l));
            note("price", x.price(l, 0));
            note("prices without" + l, x.count(7));
            note("places", x.places(l, 0));
            note("places without" + l, x.count(6));
        }
        for (int p = 0; p < people; p++) {
            note("purse", x.purse(p, 0));
            note("purses without" + p, x.count(8));
        }
    }
}
