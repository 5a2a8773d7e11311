import java.util.ArrayList;
import java.util.Arrays;
import java.util.List;
import java.util.function.Supplier;

/**
 * Every argument of every call at the edges of its range: the last numbers that are taken, the first ones beside them,
 * which are refused, and numbers from far away. What is refused changes nothing.
 */
public final class RangesTest {
    /** A boolean answer counts 1 or 0. */
    private interface Call {
        long on(LessonPurses x, int[] with);
    }

    /** Numbers at the edges that are taken (none, if nothing is), and numbers that are not. */
    private record Range(int[] good, int[] bad) { }

    private static final int[] FAR = {Integer.MIN_VALUE, Integer.MIN_VALUE + 9, -1000, 65536, Integer.MAX_VALUE - 9, Integer.MAX_VALUE};
    /** Refused calls on one object: with those that make it and those that look at it they stay below 512. */
    private static final int AT_ONCE = 30;

    private final Supplier<LessonPurses> make;
    private final int lessons;
    private final int people;
    private final int bytes;
    private final String before;
    private final Range lesson;
    private final Range person;
    private final Range way = to(0, 5);

    private RangesTest(Supplier<LessonPurses> make, int lessons, int people, int bytes) {
        this.make = make;
        this.lessons = lessons;
        this.people = people;
        this.bytes = bytes;
        before = Snapshot.of(make.get());
        lesson = to(0, lessons - 1);
        person = to(0, people - 1);
    }

    public static void main(String[] args) {
        RangesTest[] objects = {
            new RangesTest(LessonPurses::new, 0, 0, 0),
            new RangesTest(RangesTest::three, 3, 2, 0),
            new RangesTest(Make::busy, 6, 3, 40),
            new RangesTest(Make::full, 10, 8, 400)
        };
        for (RangesTest t : objects) {
            t.telling();
            t.texts();
            t.prices();
            t.searches();
            t.ways();
            t.fairness();
        }
        Check.end("RangesTest");
    }

    /** Three lessons: few enough for must(). No false wishes are told. */
    private static LessonPurses three() {
        LessonPurses x = Make.apart(1, 1, 1);
        Make.person(x, 80, "add 9*has 0+8*has 1+7*has 2;");
        Make.person(x, 90, "add 7*has 0+8*has 1+9*has 2;");
        x.give(0, 4);
        x.give(1, 1);
        return x;
    }

    private static int[] withFar(int... beside) {
        int[] all = Arrays.copyOf(beside, beside.length + FAR.length);
        System.arraycopy(FAR, 0, all, beside.length, FAR.length);
        return all;
    }

    private static Range to(int least, int greatest) {
        if (least > greatest) return none(least - 1, least, greatest + 1);
        return new Range(new int[] {least, greatest}, withFar(least - 1, greatest + 1));
    }

    private static Range none(int... beside) {
        return new Range(new int[0], withFar(beside));
    }

    /** 0, 1 and so on up to last, and 10 and any number below many. */
    private static Range orTenAnd(int last, int many) {
        int[] good = many > 0 ? new int[] {0, last, 10, 9 + many} : new int[] {0, last};
        return new Range(good, withFar(-1, last + 1, 9, 10 + many, 20));
    }

    private void telling() {
        boolean room = lessons < 10;
        Check.about(2, "NONE, doing nothing: not as told,");
        row("lesson(_, 5, 6)", (x, a) -> x.lesson(a[0], 5, 6), -1, room ? to(0, 9) : none(-1, 0, 9, 10));
        row("lesson(1, _, 40)", (x, a) -> x.lesson(1, a[0], 40), -1, room ? to(0, 39) : none(-1, 0, 39, 40));
        row("lesson(1, 0, _)", (x, a) -> x.lesson(1, 0, a[0]), -1, room ? to(1, 40) : none(0, 1, 40, 41));
        row("lesson(1, 20, _)", (x, a) -> x.lesson(1, 20, a[0]), -1, room ? to(21, 40) : none(20, 21, 40, 41));
        row("lesson(1, 39, _)", (x, a) -> x.lesson(1, 39, a[0]), -1, room ? to(40, 40) : none(39, 40, 41));
        Check.about(3, "false: not as told.");
        row("places", (x, a) -> x.places(a[0], a[1]) ? 1 : 0, 0, lesson, to(0, 9));
        Check.about(4, "NONE, doing nothing: not as told (itself, told already),");
        boolean couples = lessons > 0 && room;
        row("after(_, 1)", (x, a) -> x.after(a[0], 1), -1, couples ? new Range(new int[] {0, lessons - 1}, withFar(-1, 1, lessons)) : none(-1, 0, 1, 2, 9, 10));
        row("after(1, _)", (x, a) -> x.after(1, a[0]), -1, couples ? new Range(new int[] {0, lessons - 1}, withFar(-1, 1, lessons)) : none(-1, 0, 1, 2, 9, 10));
        Check.about(5, "false: not as told.");
        row("most", (x, a) -> x.most(a[0]) ? 1 : 0, 0, to(1, 6));
        Check.about(6, "NONE, doing nothing: not as told,");
        row("person", (x, a) -> x.person(a[0], a[1]), -1, people < 8 ? to(0, 200) : none(-1, 0, 200, 201), to(0, 1023));
        Check.about(7, "false: not as told.");
        row("purse", (x, a) -> x.purse(a[0], a[1]) ? 1 : 0, 0, person, to(0, 200));
        Check.about(14, "false: not as told.");
        row("price", (x, a) -> x.price(a[0], a[1]) ? 1 : 0, 0, lesson, to(0, 250));
        Check.about(15, "false: not as told.");
        row("step", (x, a) -> x.step(a[0]) ? 1 : 0, 0, to(1, 50));
        Check.about(24, "false: not as told (a LESSON that isn't told, too).");
        row("give", (x, a) -> x.give(a[0], a[1]) ? 1 : 0, 0, person, to(0, (1 << lessons) - 1));
        Check.about(38, "NONE for others.");
        row("count", (x, a) -> x.count(a[0]), -1, to(0, 9));
    }

    private void texts() {
        Check.about(9, "-2, doing nothing: n is below 0 or more than there are, no such person.");
        row("wish", (x, a) -> x.wish(a[0], a[1]), -2, person, to(0, bytes));
        Check.about(10, "-2: n likewise");
        row("falsely", (x, a) -> x.falsely(a[0]), -2, to(0, bytes));
        Check.about(12, "NONE: no such person, bits.");
        row("bars", (x, a) -> x.bars(a[0], a[1]), -1, person, to(0, 1023));
        Check.about(13, "-2,000,000: no such person, bits.");
        row("worth", (x, a) -> x.worth(a[0], a[1]), -2000000, person, to(0, 1023));
    }

    private void prices() {
        Check.about(16, "-2,000,000: none such.");
        row("buys", (x, a) -> x.buys(a[0], a[1]), -2000000, person, to(0, 2));
        Check.about(17, "-2: no such person.");
        row("dear", (x, a) -> x.dear(a[0]), -2, person);
        Check.about(18, "-100: no such LESSON.");
        row("over", (x, a) -> x.over(a[0]), -100, lesson);
        Check.about(23, "NONE: none such.");
        row("why", (x, a) -> x.why(a[0], a[1], 0), -1, person, lesson);
        row("why(0, 0, _)", (x, a) -> x.why(0, 0, a[0]), -1, people > 0 && lessons > 0 ? new Range(new int[] {0}, withFar(-1, 2)) : none(-1, 0, 1, 2));
        Check.about(34, "NONE: no such person,");
        row("ties", (x, a) -> x.ties(a[0]), -1, person);
        Check.about(35, "none such.");
        row("edge", (x, a) -> x.edge(a[0], a[1]), -1, person, lesson);
    }

    private void searches() {
        Check.about(20, "NONE: none such.");
        row("fit", (x, a) -> x.fit(a[0], a[1]), -1, to(1, 60), orTenAnd(1, lessons));
        Check.about(21, "false, doing nothing: n isn't 1 to 60.");
        row("settle", (x, a) -> x.settle(a[0]) ? 1 : 0, 0, to(1, 60));
        Check.about(22, "NONE: more than three LESSONS (or none), not as told.");
        row("must", (x, a) -> x.must(a[0]), -1, lessons == 3 ? to(1, 250) : none(0, 1, 250, 251));
        Check.about(31, "-2,000,000: more people or LESSONS than told, no such person.");
        row("share", (x, a) -> x.share(a[0]), -2000000, lessons < 10 ? person : none(-1, 0, 7, 8));
    }

    private void ways() {
        Check.about(25, "NONE: none such.");
        row("has", (x, a) -> x.has(a[0], a[1]), -1, way, person);
        Check.about(26, "-100: none such.");
        row("left", (x, a) -> x.left(a[0], a[1]), -100, way, lesson);
        Check.about(27, "-2,000,000,000: none such.");
        row("sum", (x, a) -> x.sum(a[0]), -2000000000, way);
        Check.about(32, "-3,000,000: none such, no FALSE WISHES are told.");
        row("gain", (x, a) -> x.gain(a[0], a[1]), -3000000, lessons > 3 ? to(1, 4) : none(0, 1, 4, 5), person);
        Check.about(33, "NONE: none such.");
        row("rank", (x, a) -> x.rank(a[0], a[1]), -1, way, person);
    }

    private void fairness() {
        Range others = people > 1 ? new Range(new int[] {1, people - 1}, withFar(-1, 0, people)) : none(-1, 0, 1);
        Check.about(28, "NONE: none such, the same.");
        row("envy(_, _, 0)", (x, a) -> x.envy(a[0], a[1], 0), -1, way, others);
        row("envy(_, 0, _)", (x, a) -> x.envy(a[0], 0, a[1]), -1, way, others);
        Check.about(29, "NONE: none such.");
        row("envies", (x, a) -> x.envies(a[0], a[1]), -1, way, to(1, 2));
        Check.about(30, "NONE: none, none such.");
        boolean wasteful = lessons == 3;
        row("waste(5, _)", (x, a) -> x.waste(5, a[0]), -1, wasteful ? to(0, 3) : new Range(new int[0], withFar(-1, 4)));
        row("waste(_, 0)", (x, a) -> x.waste(a[0], 0), -1, new Range(wasteful ? new int[] {5} : new int[0], withFar(-1, 6)));
        Check.about(36, "NONE: no set, none such.");
        row("few", (x, a) -> x.few(a[0], a[1], a[2]), -1, way, lesson, orTenAnd(0, people));
    }

    /** Tries one call: all that is taken on objects of its own, then all that is refused. */
    private void row(String name, Call call, long refusal, Range... ranges) {
        List<int[]> taken = new ArrayList<>();
        List<int[]> refused = new ArrayList<>();
        for (int bad = -1; bad < ranges.length; bad++) combine(ranges, bad, 0, new int[ranges.length], bad < 0 ? taken : refused);
        for (int[] with : taken) Check.due(name + Arrays.toString(with) + " is taken", call.on(make.get(), with) != refusal, true);
        for (int from = 0; from < refused.size(); from += AT_ONCE) {
            LessonPurses x = make.get();
            for (int[] with : refused.subList(from, Math.min(from + AT_ONCE, refused.size()))) {
                Check.due(name + Arrays.toString(with), call.on(x, with), refusal);
            }
            Check.same(name + ": what is refused changes nothing", Snapshot.of(x), before);
        }
    }

    /** All ways to give each argument a good number, but one of them (bad) a bad one. */
    private static void combine(Range[] ranges, int bad, int at, int[] with, List<int[]> into) {
        if (at == ranges.length) {
            into.add(with.clone());
            return;
        }
        int[] numbers = at == bad ? ranges[at].bad : ranges[at].good;
        if (numbers.length == 0 && bad >= 0) numbers = new int[] {ranges[at].bad[0]};
        for (int number : numbers) {
            with[at] = number;
            combine(ranges, bad, at + 1, with, into);
        }
    }
}
