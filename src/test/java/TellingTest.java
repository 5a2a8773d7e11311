/** Promises 1 to 7, 14, 15 and 38: what is told, and what count() says of it. */
public final class TellingTest {
    public static void main(String[] args) {
        newObject();
        lessons();
        places();
        afters();
        most();
        people();
        purses();
        prices();
        steps();
        counts();
        Check.end("TellingTest");
    }

    private static void newObject() {
        LessonPurses x = new LessonPurses();
        int[] due = {0, 0, 0, 4, 5, 0, 0, 0, 0, 0};
        for (int what = 0; what < due.length; what++) Check.due("new: count(" + what + ")", x.count(what), due[what]);
        Check.due("new: fault()", x.fault(), -1);
        Check.due("new: square()", x.square(), 0);
        Check.due("new: judge()", x.judge(), -1);
        Check.due("new: fit(1, 0)", x.fit(1, 0), 0);
        Check.due("new: fit(1, 1)", x.fit(1, 1), 0);
        Check.due("new: sum(2)", x.sum(2), 0);
        Check.due("new: envies(1, 1)", x.envies(1, 1), 0);
        Check.due("new: waste(5, 0)", x.waste(5, 0), -1);
        LessonPurses y = new LessonPurses();
        y.lesson(1, 0, 1);
        Check.due("objects have nothing together", x.count(0), 0);
    }

    private static void lessons() {
        LessonPurses x = new LessonPurses();
        int[][] wrong = {{-1, 1, 2}, {10, 1, 2}, {1, -1, 2}, {1, 40, 41}, {1, 40, 40}, {1, 5, 5}, {1, 5, 4}, {1, 39, 41}, {1, 0, 41}};
        for (int[] w : wrong) Check.due("lesson " + w[0] + " " + w[1] + " " + w[2], x.lesson(w[0], w[1], w[2]), -1);
        Check.due("nothing was told", x.count(0), 0);
        Check.due("lesson(0, 0, 40)", x.lesson(0, 0, 40), 0);
        Check.due("lesson(9, 39, 40)", x.lesson(9, 39, 40), 1);
        for (int i = 2; i < 10; i++) Check.due("lesson " + i, x.lesson(1, i, i + 1), i);
        Check.due("the eleventh", x.lesson(1, 1, 2), -1);
        LessonPurses y = new LessonPurses();
        y.lesson(1, 0, 1);
        y.person(0, 0);
        Check.wish(y, 0, "add 5*has 0+has 1;");
        Check.due("one is told", y.buys(0, 0), 1);
        y.lesson(1, 1, 2);
        Check.due("another one is told", y.buys(0, 0), 3);
        Check.due("ten of them", x.count(0), 10);
        Check.due("their places", x.count(6), 17);
    }

    private static void places() {
        LessonPurses x = new LessonPurses();
        Check.due("places without lessons", x.places(0, 1), false);
        x.lesson(3, 0, 1);
        x.lesson(4, 0, 1);
        Check.due("places(1, 9)", x.places(1, 9), true);
        Check.due("then", x.count(6), 12);
        Check.due("left", x.left(5, 1), 9);
        Check.due("places(0, 0)", x.places(0, 0), true);
        Check.due("places(0, -1)", x.places(0, -1), false);
        Check.due("places(0, 10)", x.places(0, 10), false);
        Check.due("places(-1, 1)", x.places(-1, 1), false);
        Check.due("places(2, 1)", x.places(2, 1), false);
        Check.due("then", x.count(6), 9);
    }

    private static void afters() {
        LessonPurses x = new LessonPurses();
        for (int i = 0; i < 6; i++) x.lesson(1, i, i + 1);
        x.person(10, 0);
        Check.due("after(0, 0)", x.after(0, 0), -1);
        Check.due("after(0, 6)", x.after(0, 6), -1);
        Check.due("after(6, 0)", x.after(6, 0), -1);
        Check.due("after(-1, 0)", x.after(-1, 0), -1);
        Check.due("after(0, -1)", x.after(0, -1), -1);
        Check.due("before: bars", x.bars(0, 2), 0);
        Check.due("after(1, 0)", x.after(1, 0), 1);
        Check.due("behind: bars", x.bars(0, 2), 4);
        Check.due("after(1, 0) again", x.after(1, 0), -1);
        Check.due("the other way round", x.after(0, 1), 2);
        int many = 2;
        for (int a = 0; a < 6; a++) {
            for (int b = 0; b < 6; b++) {
                if (a == b || a + b == 1) continue;
                Check.due("after(" + a + ", " + b + ")", x.after(a, b), many < 20 ? ++many : -1);
            }
        }
        Check.due("couples", x.count(2), 20);
    }

    private static void most() {
        LessonPurses x = new LessonPurses();
        for (int i = 0; i < 8; i++) x.lesson(1, i, i + 1);
        x.person(10, 0);
        Check.due("four at first", x.bars(0, 15), 0);
        Check.due("five are too many", x.bars(0, 31), 2);
        Check.due("most(0)", x.most(0), false);
        Check.due("most(7)", x.most(7), false);
        Check.due("count(3)", x.count(3), 4);
        Check.due("most(6)", x.most(6), true);
        Check.due("six", x.bars(0, 63), 0);
        Check.due("seven", x.bars(0, 127), 2);
        Check.due("most(1)", x.most(1), true);
        Check.due("count(3)", x.count(3), 1);
        Check.due("two", x.bars(0, 3), 2);
    }

    private static void people() {
        LessonPurses x = new LessonPurses();
        int[][] wrong = {{-1, 0}, {201, 0}, {1, -1}, {1, 1024}};
        for (int[] w : wrong) Check.due("person " + w[0] + " " + w[1], x.person(w[0], w[1]), -1);
        Check.due("person(0, 1023)", x.person(0, 1023), 0);
        Check.due("person(200, 0)", x.person(200, 0), 1);
        for (int i = 2; i < 8; i++) Check.due("person " + i, x.person(1, 0), i);
        Check.due("the ninth", x.person(1, 0), -1);
        Check.due("people", x.count(1), 8);
        Check.due("purses", x.count(8), 206);
        Check.due("nothing at first in hand", x.has(5, 7), 0);
    }

    private static void purses() {
        LessonPurses x = new LessonPurses();
        x.lesson(1, 0, 1);
        Check.due("purse without people", x.purse(0, 1), false);
        x.person(10, 0);
        Check.wish(x, 0, "add purse*has 0;");
        Check.due("worth", x.worth(0, 1), 10);
        x.price(0, 11);
        Check.due("can't pay", x.buys(0, 0), 0);
        Check.due("purse(0, 11)", x.purse(0, 11), true);
        Check.due("can pay", x.buys(0, 0), 1);
        Check.due("worth", x.buys(0, 2), 11);
        Check.due("purse(0, 200)", x.purse(0, 200), true);
        Check.due("purse(0, 201)", x.purse(0, 201), false);
        Check.due("purse(0, -1)", x.purse(0, -1), false);
        Check.due("purse(1, 1)", x.purse(1, 1), false);
        Check.due("purse(-1, 1)", x.purse(-1, 1), false);
        Check.due("count(8)", x.count(8), 200);
        Check.due("purse(0, 0)", x.purse(0, 0), true);
        Check.due("count(8)", x.count(8), 0);
    }

    private static void prices() {
        LessonPurses x = new LessonPurses();
        Check.due("price without lessons", x.price(0, 1), false);
        x.lesson(1, 0, 1);
        x.lesson(1, 1, 2);
        Check.due("price(0, 250)", x.price(0, 250), true);
        Check.due("price(1, 3)", x.price(1, 3), true);
        Check.due("price(0, 251)", x.price(0, 251), false);
        Check.due("price(0, -1)", x.price(0, -1), false);
        Check.due("price(2, 1)", x.price(2, 1), false);
        Check.due("price(-1, 1)", x.price(-1, 1), false);
        Check.due("count(7)", x.count(7), 253);
        Check.due("price(0, 0)", x.price(0, 0), true);
        Check.due("count(7)", x.count(7), 3);
    }

    private static void steps() {
        LessonPurses x = new LessonPurses();
        Check.due("step(0)", x.step(0), false);
        Check.due("step(51)", x.step(51), false);
        Check.due("count(4)", x.count(4), 5);
        Check.due("step(50)", x.step(50), true);
        Check.due("count(4)", x.count(4), 50);
        Check.due("step(1)", x.step(1), true);
        Check.due("count(4)", x.count(4), 1);
    }

    private static void counts() {
        LessonPurses x = new LessonPurses();
        x.lesson(2, 0, 1);
        x.lesson(3, 1, 2);
        x.lesson(4, 2, 3);
        x.after(2, 1);
        x.after(1, 0);
        x.most(3);
        x.step(9);
        x.person(50, 0);
        x.person(60, 0);
        x.price(1, 20);
        x.price(2, 22);
        Check.feed(x, "add 1;");
        Check.due("false wishes", x.falsely(6), 1);
        Check.feed(x, "on the tape, 40 bytes are");
        int[] due = {3, 2, 2, 3, 9, 40, 9, 42, 110, 1};
        for (int what = 0; what < due.length; what++) Check.due("count(" + what + ")", x.count(what), due[what]);
        for (int what : new int[] {-1, 10, Integer.MIN_VALUE, Integer.MAX_VALUE}) Check.due("count(" + what + ")", x.count(what), -1);
    }
}
