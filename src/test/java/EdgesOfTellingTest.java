/** The edges of promises 1 to 7, 14, 15 and 38: what is told, how much of it there may be, and what count() says. */
public final class EdgesOfTellingTest {
    public static void main(String[] args) {
        newObject();
        theConstant();
        lessonsUpToTen();
        hoursOfLessons();
        placesOfLessons();
        couples();
        twentyCouples();
        most();
        peopleUpToEight();
        purses();
        prices();
        steps();
        toldLater();
        counts();
        Check.end("EdgesOfTellingTest");
    }

    private static void newObject() {
        LessonPurses x = new LessonPurses();
        Check.about(1, "No LESSONS, PEOPLE.");
        Check.due("lessons", x.count(0), 0);
        Check.due("people", x.count(1), 0);
        Check.due("no lesson 0", x.over(0), -100);
        Check.due("no person 0", x.dear(0), -2);
        Check.due("the first lesson", x.lesson(1, 0, 1), 0);
        Check.due("lesson 0 is there", x.over(0), 0);
        Check.due("no lesson 1", x.over(1), -100);
        Check.due("nobody yet", x.dear(0), -2);
        Check.due("the first person", x.person(1, 0), 0);
        Check.due("person 0 is there", x.dear(0), -1);
        Check.due("no person 1", x.dear(1), -2);
        Check.due("another object", new LessonPurses().count(0), 0);
    }

    private static void theConstant() {
        Check.about(1, "NONE = -1: There is none.");
        Check.due("NONE", LessonPurses.NONE, -1);
    }

    private static LessonPurses lessons(int many) {
        LessonPurses x = new LessonPurses();
        for (int i = 0; i < many; i++) x.lesson(1, 4 * i, 4 * i + 4);
        return x;
    }

    private static void lessonsUpToTen() {
        Check.about(2, "LESSONS, up to 10:");
        LessonPurses x = lessons(8);
        Check.due("the ninth", x.lesson(2, 39, 40), 8);
        Check.due("the tenth", x.lesson(3, 0, 40), 9);
        Check.due("the tenth is there", x.left(5, 9), 3);
        Check.about(2, "A LESSON: its number.");
        LessonPurses y = new LessonPurses();
        Check.due("the first", y.lesson(1, 5, 6), 0);
        Check.due("refused", y.lesson(1, 5, 5), -1);
        Check.due("the second, though one was refused", y.lesson(1, 5, 6), 1);
        Check.about(2, "10 are there.");
        Check.due("the eleventh", x.lesson(1, 0, 1), -1);
        Check.due("ten", x.count(0), 10);
        Snapshot.refused("the eleventh", () -> lessons(10), z -> z.lesson(1, 0, 1), -1);
    }

    /** What first and last say of a lesson, if it can be told. */
    private static void hours(int from, int to, boolean good) {
        LessonPurses x = new LessonPurses();
        String call = "lesson(1, " + from + ", " + to + ")";
        Check.due(call, x.lesson(1, from, to), good ? 0 : -1);
        Check.due(call + ": lessons", x.count(0), good ? 1 : 0);
        Make.person(x, 1, "add 100*first+last;");
        Check.due(call + ": its hours", x.worth(0, 1), good ? 100 * from + to : 0);
        if (!good) Snapshot.refused(call, Make::busy, y -> y.lesson(1, from, to), -1);
    }

    private static void hoursOfLessons() {
        Check.about(2, "HOURS from (0 to 39) to one behind the last (above from, up to 40).");
        hours(-1, 1, false);
        hours(0, 1, true);
        hours(1, 2, true);
        hours(38, 40, true);
        hours(39, 40, true);
        hours(40, 41, false);
        hours(40, 40, false);
        hours(0, 0, false);
        hours(0, -1, false);
        hours(20, 19, false);
        hours(20, 20, false);
        hours(20, 21, true);
        hours(0, 39, true);
        hours(0, 40, true);
        hours(0, 41, false);
        hours(39, 39, false);
        hours(39, 41, false);
    }

    private static void placesOfLessons() {
        Check.about(2, "PLACES 0 to 9,");
        LessonPurses x = new LessonPurses();
        int[][] due = {{-1, -1}, {0, 0}, {1, 1}, {8, 2}, {9, 3}, {10, -1}};
        for (int[] d : due) Check.due("lesson(" + d[0] + ", 3, 4)", x.lesson(d[0], 3, 4), d[1]);
        for (int[] d : due) if (d[1] >= 0) Check.due("its places", x.left(5, d[1]), d[0]);
        Check.due("places in all", x.count(6), 18);
        Snapshot.refused("lesson(-1, 3, 4)", Make::busy, y -> y.lesson(-1, 3, 4), -1);
        Snapshot.refused("lesson(10, 3, 4)", Make::busy, y -> y.lesson(10, 3, 4), -1);
        Check.about(3, "PLACES of a LESSON: true;");
        for (int many : new int[] {0, 1, 8, 9}) {
            Check.due("places(2, " + many + ")", x.places(2, many), true);
            Check.due("then", x.left(5, 2), many);
            Check.due("the lesson before it", x.left(5, 1), 1);
            Check.due("the lesson behind it", x.left(5, 3), 9);
        }
        Check.due("the first lesson", x.places(0, 5), true);
        Check.due("the last lesson", x.places(3, 6), true);
        Check.due("places in all", x.count(6), 5 + 1 + 9 + 6);
        Check.about(3, "false: not as told.");
        Snapshot.refused("places(0, -1)", Make::busy, y -> y.places(0, -1) ? 1 : 0, 0);
        Snapshot.refused("places(0, 10)", Make::busy, y -> y.places(0, 10) ? 1 : 0, 0);
        Snapshot.refused("places(-1, 5)", Make::busy, y -> y.places(-1, 5) ? 1 : 0, 0);
        Snapshot.refused("places(6, 5)", Make::busy, y -> y.places(6, 5) ? 1 : 0, 0);
        Snapshot.refused("places(0, 5) without lessons", LessonPurses::new, y -> y.places(0, 5) ? 1 : 0, 0);
    }

    private static void couples() {
        Check.about(4, "A LESSON comes AFTER another one: how many such there are.");
        LessonPurses x = lessons(3);
        x.person(1, 0);
        Check.due("the first couple", x.after(2, 0), 1);
        Check.due("the lesson alone", x.bars(0, 4), 4);
        Check.due("the other one alone", x.bars(0, 1), 0);
        Check.due("the second", x.after(2, 1), 2);
        Check.due("it needs both", x.bars(0, 5), 4);
        Check.due("both are there", x.bars(0, 7), 0);
        Check.due("the other way round is another one", x.after(0, 2), 3);
        Check.due("couples", x.count(2), 3);
        Check.about(4, "NONE, doing nothing: not as told (itself, told already),");
        Snapshot.refused("after(2, 2)", Make::busy, y -> y.after(2, 2), -1);
        Snapshot.refused("after(0, 0)", Make::busy, y -> y.after(0, 0), -1);
        Snapshot.refused("after(5, 5)", Make::busy, y -> y.after(5, 5), -1);
        Snapshot.refused("told already", Make::busy, y -> y.after(3, 2), -1);
        Snapshot.refused("told already, the latest", Make::busy, y -> y.after(5, 0), -1);
        Snapshot.refused("after(-1, 0)", Make::busy, y -> y.after(-1, 0), -1);
        Snapshot.refused("after(6, 0)", Make::busy, y -> y.after(6, 0), -1);
        Snapshot.refused("after(0, -1)", Make::busy, y -> y.after(0, -1), -1);
        Snapshot.refused("after(0, 6)", Make::busy, y -> y.after(0, 6), -1);
        Check.due("after(5, 4)", Make.busy().after(5, 4), 3);
        Check.due("after(0, 5)", Make.busy().after(0, 5), 3);
    }

    private static void twentyCouples() {
        Check.about(4, "A LESSON may be told to come AFTER another one (any number of such couples up to 20).");
        Check.due("none", lessons(10).count(2), 0);
        LessonPurses x = lessons(5);
        int many = 0;
        for (int a = 0; a < 5; a++) {
            for (int b = 0; b < 5; b++) if (a != b) Check.due("couple " + a + ", " + b, x.after(a, b), ++many);
        }
        Check.due("twenty", x.count(2), 20);
        x.person(1, 30);
        x.person(1, 15);
        Check.due("the twentieth counts: 4 after 3", x.bars(0, 16), 4);
        Check.due("all but the lesson are done", x.bars(1, 16), 0);
        Check.about(4, "20 are there.");
        LessonPurses y = lessons(6);
        for (int i = 0; i < 19; i++) y.after(i / 4, i % 4 < i / 4 ? i % 4 : i % 4 + 1);
        Check.due("nineteen", y.count(2), 19);
        Check.due("the twentieth", y.after(5, 0), 20);
        Check.due("the twenty-first", y.after(5, 1), -1);
        y.person(1, 1);
        Check.due("the twenty-first isn't told", y.bars(0, 32), 0);
        Snapshot.refused("the twenty-first", Make::full, z -> z.after(0, 1), -1);
        Snapshot.refused("told already, with twenty", Make::full, z -> z.after(4, 0), -1);
    }

    private static void most() {
        Check.about(5, "MOST (1 to 6; 4 at first).");
        Check.due("at first", new LessonPurses().count(3), 4);
        LessonPurses x = lessons(8);
        x.person(1, 0);
        Check.due("four at first", x.bars(0, 15), 0);
        Check.due("five at first", x.bars(0, 31), 2);
        Check.about(5, "MOST: true;");
        for (int many = 1; many <= 6; many++) {
            Check.due("most(" + many + ")", x.most(many), true);
            Check.due("count(3)", x.count(3), many);
            Check.due("fewer", x.bars(0, (1 << many - 1) - 1), 0);
            Check.due("as many", x.bars(0, (1 << many) - 1), 0);
            Check.due("more", x.bars(0, (1 << many + 1) - 1), 2);
        }
        Check.about(5, "false: not as told.");
        Snapshot.refused("most(0)", Make::busy, y -> y.most(0) ? 1 : 0, 0);
        Snapshot.refused("most(7)", Make::busy, y -> y.most(7) ? 1 : 0, 0);
        Snapshot.refused("most(-1)", Make::busy, y -> y.most(-1) ? 1 : 0, 0);
    }

    private static void peopleUpToEight() {
        Check.about(6, "PEOPLE, up to 8:");
        LessonPurses x = lessons(1);
        for (int i = 0; i < 6; i++) x.person(1, 0);
        Check.due("the seventh", x.person(2, 0), 6);
        Check.due("the eighth", x.person(3, 0), 7);
        Check.due("the eighth is there", x.buys(7, 2), 0);
        Check.about(6, "8 are there.");
        Check.due("the ninth", x.person(4, 0), -1);
        Check.due("eight", x.count(1), 8);
        Check.due("purses", x.count(8), 11);
        Snapshot.refused("the ninth", Make::full, y -> y.person(4, 0), -1);
        Check.about(6, "One of the PEOPLE: their number.");
        LessonPurses z = new LessonPurses();
        Check.due("the first", z.person(1, 0), 0);
        Check.due("refused", z.person(201, 0), -1);
        Check.due("the second, though one was refused", z.person(1, 0), 1);
        done();
    }

    private static void done() {
        Check.about(6, "and DONE: bits of LESSONS (0 to 1,023).");
        Snapshot.refused("person(1, -1)", Make::busy, y -> y.person(1, -1), -1);
        Snapshot.refused("person(1, 1024)", Make::busy, y -> y.person(1, 1024), -1);
        LessonPurses x = lessons(10);
        x.after(0, 9);
        x.after(1, 0);
        Check.due("person(1, 0)", x.person(1, 0), 0);
        Check.due("nothing done", x.bars(0, 1), 4);
        Check.due("person(1, 1023)", x.person(1, 1023), 1);
        Check.due("all done", x.bars(1, 1), 0);
        Check.due("all done", x.bars(1, 2), 0);
        Check.due("person(1, 512)", x.person(1, 512), 2);
        Check.due("the last one done", x.bars(2, 1), 0);
        Check.due("the first one not", x.bars(2, 2), 4);
        Check.due("person(1, 1022)", x.person(1, 1022), 3);
        Check.due("all but the first one done", x.bars(3, 2), 4);
        Check.due("person(1, 511)", x.person(1, 511), 4);
        Check.due("all but the last one done", x.bars(4, 1), 4);
        LessonPurses early = new LessonPurses();
        Check.due("done before it is told", early.person(1, 1), 0);
        early.lesson(1, 0, 1);
        early.lesson(1, 1, 2);
        early.after(1, 0);
        Check.due("then it counts", early.bars(0, 2), 0);
    }

    private static void purses() {
        Check.about(6, "a PURSE 0 to 200,");
        LessonPurses x = lessons(1);
        int[][] due = {{-1, -1}, {0, 0}, {1, 1}, {199, 2}, {200, 3}, {201, -1}};
        for (int[] d : due) Check.due("person(" + d[0] + ", 0)", x.person(d[0], 0), d[1]);
        Check.due("purses together", x.count(8), 400);
        Snapshot.refused("person(-1, 0)", Make::busy, y -> y.person(-1, 0), -1);
        Snapshot.refused("person(201, 0)", Make::busy, y -> y.person(201, 0), -1);
        Check.about(7, "A PURSE: true;");
        Make.wish(x, 1, "add purse*has 0;");
        for (int much : new int[] {0, 1, 199, 200}) {
            Check.due("purse(1, " + much + ")", x.purse(1, much), true);
            Check.due("its worth then", x.worth(1, 1), much);
            Check.due("purses together", x.count(8), 399 + much);
            Check.due("what is bought then", x.buys(1, 2), much);
        }
        Check.about(7, "false: not as told.");
        Snapshot.refused("purse(1, -1)", Make::busy, y -> y.purse(1, -1) ? 1 : 0, 0);
        Snapshot.refused("purse(1, 201)", Make::busy, y -> y.purse(1, 201) ? 1 : 0, 0);
        Snapshot.refused("purse(-1, 1)", Make::busy, y -> y.purse(-1, 1) ? 1 : 0, 0);
        Snapshot.refused("purse(3, 1)", Make::busy, y -> y.purse(3, 1) ? 1 : 0, 0);
        Snapshot.refused("purse(0, 1) without people", LessonPurses::new, y -> y.purse(0, 1) ? 1 : 0, 0);
    }

    private static void prices() {
        Check.about(14, "PRICES 0 to 250 of LESSONS (0 at first).");
        LessonPurses x = lessons(3);
        Make.person(x, 200, "add has 0+has 1+has 2;");
        Check.due("at first", x.count(7), 0);
        Check.due("at first all can be paid", x.buys(0, 1), 0);
        Check.about(14, "A PRICE: true;");
        for (int much : new int[] {0, 1, 249, 250}) {
            Check.due("price(1, " + much + ")", x.price(1, much), true);
            Check.due("prices together", x.count(7), much);
        }
        Check.due("price(1, 200)", x.price(1, 200), true);
        Check.due("it's paid", x.buys(0, 1), 200);
        Check.due("price(1, 201)", x.price(1, 201), true);
        Check.due("it can't be paid", x.buys(0, 0), 5);
        Check.due("price(0, 250)", x.price(0, 250), true);
        Check.due("price(2, 250)", x.price(2, 250), true);
        Check.due("prices together", x.count(7), 701);
        Check.about(14, "false: not as told.");
        Snapshot.refused("price(0, -1)", Make::busy, y -> y.price(0, -1) ? 1 : 0, 0);
        Snapshot.refused("price(0, 251)", Make::busy, y -> y.price(0, 251) ? 1 : 0, 0);
        Snapshot.refused("price(-1, 9)", Make::busy, y -> y.price(-1, 9) ? 1 : 0, 0);
        Snapshot.refused("price(6, 9)", Make::busy, y -> y.price(6, 9) ? 1 : 0, 0);
        Snapshot.refused("price(0, 9) without lessons", LessonPurses::new, y -> y.price(0, 9) ? 1 : 0, 0);
    }

    private static void steps() {
        Check.about(15, "STEP (1 to 50; 5 at first).");
        LessonPurses x = Make.apart(0);
        Make.person(x, 100, "add has 0;");
        Check.due("at first", x.count(4), 5);
        x.price(0, 96);
        Check.due("five more is too dear", x.fit(1, 10), 101);
        Check.about(15, "STEP: true;");
        for (int much : new int[] {1, 2, 49, 50}) {
            x.price(0, 101 - much);
            Check.due("step(" + much + ")", x.step(much), true);
            Check.due("count(4)", x.count(4), much);
            Check.due("a step more is too dear", x.fit(1, 10), 101);
        }
        Check.about(15, "false: not as told.");
        Snapshot.refused("step(0)", Make::busy, y -> y.step(0) ? 1 : 0, 0);
        Snapshot.refused("step(51)", Make::busy, y -> y.step(51) ? 1 : 0, 0);
        Snapshot.refused("step(-1)", Make::busy, y -> y.step(-1) ? 1 : 0, 0);
    }

    /** What was asked before doesn't stay when more is told. */
    private static void toldLater() {
        LessonPurses x = lessons(9);
        Make.person(x, 0, "add has 8+2*has 9-5*has 0;");
        Make.person(x, 0, "add has 8+2*has 9-has 0;");
        Check.due("nine are told", x.buys(0, 0), 256);
        Check.due("nine are told", x.buys(1, 0), 256);
        Check.about(2, "A LESSON: its number.");
        Check.due("a tenth", x.lesson(1, 36, 40), 9);
        Check.due("it's bought", x.buys(0, 0), 768);
        Check.due("it's bought", x.buys(1, 0), 768);
        Check.about(4, "A LESSON comes AFTER another one: how many such there are.");
        Check.due("after(9, 0)", x.after(9, 0), 1);
        Check.due("not with what it comes after", x.buys(0, 0), 256);
        Check.due("with what it comes after", x.buys(1, 0), 769);
        Check.about(5, "MOST: true;");
        Check.due("most(2)", x.most(2), true);
        Check.due("all three are too many", x.buys(1, 0), 256);
        Check.due("most(3)", x.most(3), true);
        Check.due("all three", x.buys(1, 0), 769);
    }

    private static void counts() {
        Check.about(38, "0 LESSONS, 1 PEOPLE, 2 couples of AFTER, 3 MOST, 4 STEP, 5 bytes on the tape, 6 PLACES in all, "
            + "7 PRICES together, 8 PURSES together, 9 whether FALSE WISHES are told (1).");
        int[] none = {0, 0, 0, 4, 5, 0, 0, 0, 0, 0};
        for (int what = 0; what < 10; what++) Check.due("new: count(" + what + ")", new LessonPurses().count(what), none[what]);
        LessonPurses x = new LessonPurses();
        for (int i = 0; i < 10; i++) x.lesson(9, i, i + 1);
        for (int i = 0; i < 8; i++) x.person(200, 0);
        for (int i = 0; i < 10; i++) x.price(i, 250);
        for (int i = 0; i < 9; i++) x.after(i, i + 1);
        for (int i = 0; i < 8; i++) x.after(i, i + 2);
        for (int i = 0; i < 3; i++) x.after(i, i + 3);
        x.most(6);
        x.step(50);
        Check.due("falsely(0)", x.falsely(0), 0);
        for (int i = 0; i < 20; i++) x.feed(1, 2, 3, 4, 5);
        int[] all = {10, 8, 20, 6, 50, 400, 90, 2500, 1600, 1};
        for (int what = 0; what < 10; what++) Check.due("full: count(" + what + ")", x.count(what), all[what]);
        Check.about(38, "NONE for others.");
        Check.due("count(-1)", x.count(-1), -1);
        Check.due("count(10)", x.count(10), -1);
        Check.due("count(11)", x.count(11), -1);
    }
}
