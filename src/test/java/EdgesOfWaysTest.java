/** The edges of promises 24 to 27 and 37: who has what in each way, and what is judged of the hand's. */
public final class EdgesOfWaysTest {
    private static final int PRICED = 0;
    private static final int MENDED = 1;
    private static final int TURNS = 2;
    private static final int BIDS = 3;
    private static final int SERIAL = 4;
    private static final int HAND = 5;

    public static void main(String[] args) {
        give();
        handAtFirst();
        has();
        priced();
        mendedRaises();
        mendedTheGreatest();
        mendedByTurns();
        mendedFar();
        mendedAdds();
        turns();
        turnsEnd();
        addMoreWorth();
        addPlaces();
        bidsMoreThanNothing();
        bidsInOrder();
        bidsLawful();
        serial();
        serialNone();
        left();
        sum();
        judgedPeople();
        judgedLessons();
        Check.end("EdgesOfWaysTest");
    }

    private static void all(String what, LessonPurses x, int way, int... bundles) {
        for (int who = 0; who < bundles.length; who++) Check.due(what + ": has(" + way + ", " + who + ")", x.has(way, who), bundles[who]);
    }

    private static LessonPurses people(int many, String wishes, int... places) {
        LessonPurses x = Make.apart(places);
        for (int i = 0; i < many; i++) Make.person(x, 100, wishes);
        return x;
    }

    private static void give() {
        Check.about(24, "HAND: somebody's BUNDLE: true;");
        LessonPurses x = people(2, "", 1, 1, 1);
        Check.due("give(0, 7)", x.give(0, 7), true);
        all("the greatest", x, HAND, 7, 0);
        Check.due("give(1, 6)", x.give(1, 6), true);
        all("the other's", x, HAND, 7, 6);
        Check.due("give(0, 0)", x.give(0, 0), true);
        all("the least, in place of the other", x, HAND, 0, 6);
        Check.due("clashing, too many, never", Make.busy().give(0, 63), true);
        Check.due("ten lessons", Make.full().give(0, 1023), true);
        Check.about(24, "false: not as told (a LESSON that isn't told, too).");
        Snapshot.refused("give(0, 8)", () -> people(2, "", 1, 1, 1), y -> y.give(0, 8) ? 1 : 0, 0);
        Snapshot.refused("give(0, 9)", () -> people(2, "", 1, 1, 1), y -> y.give(0, 9) ? 1 : 0, 0);
        Snapshot.refused("give(0, 1023)", Make::busy, y -> y.give(0, 1023) ? 1 : 0, 0);
        Snapshot.refused("give(0, 1024)", Make::full, y -> y.give(0, 1024) ? 1 : 0, 0);
        Snapshot.refused("give(0, -1)", Make::full, y -> y.give(0, -1) ? 1 : 0, 0);
        Snapshot.refused("give(-1, 1)", Make::busy, y -> y.give(-1, 1) ? 1 : 0, 0);
        Snapshot.refused("give(3, 1)", Make::busy, y -> y.give(3, 1) ? 1 : 0, 0);
        LessonPurses z = people(1, "");
        Check.due("no lessons: nothing", z.give(0, 0), true);
        Check.due("no lessons: one", z.give(0, 1), false);
        z.lesson(1, 0, 1);
        Check.due("told now", z.give(0, 1), true);
    }

    private static void handAtFirst() {
        Check.about(24, "5 HAND: BUNDLES as told (0 at first).");
        LessonPurses x = people(2, "add 5*has 0;", 1, 1);
        all("at first", x, HAND, 0, 0);
        x.give(1, 2);
        all("as told", x, HAND, 0, 2);
        Make.person(x, 100, "add 9*has 0;");
        all("somebody new", x, HAND, 0, 2, 0);
        x.places(1, 0);
        Make.wish(x, 1, "never;");
        all("as told, though there's no place and it's never", x, HAND, 0, 2, 0);
    }

    private static void has() {
        Check.about(25, "What somebody has in a WAY.");
        LessonPurses x = Make.apart(1, 1);
        Make.person(x, 19, "add 8*has 0+5*has 1;");
        Make.person(x, 30, "add 9*has 0+5*has 1;");
        x.step(10);
        x.price(1, 20);
        x.give(0, 3);
        all("priced", x, PRICED, 1, 3);
        all("mended", x, MENDED, 2, 1);
        all("turns", x, TURNS, 1, 2);
        all("bids", x, BIDS, 2, 1);
        all("serial", x, SERIAL, 3, 0);
        all("hand", x, HAND, 3, 0);
        Check.about(25, "NONE: none such.");
        int[][] wrong = {{-1, 0}, {6, 0}, {0, -1}, {0, 3}, {5, -1}, {5, 3}};
        for (int[] w : wrong) Snapshot.refused("has(" + w[0] + ", " + w[1] + ")", Make::busy, y -> y.has(w[0], w[1]), -1);
        Check.due("no people", Make.apart(1).has(0, 0), -1);
    }

    private static void priced() {
        Check.about(25, "WAYS: 0 PRICED: each has what they BUY.");
        LessonPurses x = people(3, "add 8*has 0+5*has 1;", 1, 0);
        all("more than there are places", x, PRICED, 3, 3, 3);
        x.price(0, 100);
        x.price(1, 1);
        all("the better one can just be paid", x, PRICED, 1, 1, 1);
        x.purse(1, 99);
        x.purse(2, 101);
        all("not, and both", x, PRICED, 1, 2, 3);
    }

    private static void mendedRaises() {
        Check.about(25, "1 MENDED: as long as some LESSON is OVER above 0, the PRICE of that with the greatest OVER (of several the least) grows by STEP "
            + "(it may be above 250 here);");
        LessonPurses x = people(2, "add 8*has 0;", 2);
        Make.person(x, 0, "add 8*has 0;");
        x.price(0, 1);
        all("just as many as places: nothing grows", x, MENDED, 1, 1, 0);
        x.purse(2, 1);
        x.purse(1, 5);
        x.purse(0, 5);
        all("one too many: to 6, nobody buys, the first ones add", x, MENDED, 1, 1, 0);
        x.purse(1, 6);
        x.purse(2, 6);
        all("6 is paid", x, MENDED, 0, 1, 1);
        x.step(4);
        x.purse(0, 4);
        x.purse(1, 5);
        x.purse(2, 5);
        all("5 is paid", x, MENDED, 0, 1, 1);
        x.purse(0, 5);
        all("9 is too dear for all", x, MENDED, 1, 1, 0);
        Check.due("prices are as told", x.count(7), 1);
        x.places(0, 0);
        all("no places at all", x, MENDED, 0, 0, 0);
        x.places(0, 3);
        x.price(0, 250);
        all("too dear from the start", x, MENDED, 1, 1, 1);
    }

    /** Two who can't pay take what is left, if one's price grew beyond what the others pay. */
    private static LessonPurses besideEachOther() {
        LessonPurses x = Make.apart(1, 1);
        Make.person(x, 0, "add 5*has 0;");
        Make.person(x, 0, "add 5*has 1;");
        Make.person(x, 49, "add 20 if has 0=1 and has 1=1;");
        Make.person(x, 49, "add 5*has 0;");
        Make.person(x, 49, "add 5*has 1;");
        x.price(0, 1);
        x.price(1, 1);
        x.step(50);
        return x;
    }

    private static void mendedTheGreatest() {
        Check.about(25, "1 MENDED: as long as some LESSON is OVER above 0, the PRICE of that with the greatest OVER (of several the least) grows by STEP "
            + "(it may be above 250 here);");
        LessonPurses x = besideEachOther();
        all("of several the least", x, MENDED, 1, 0, 0, 0, 2);
        Make.person(x, 200, "add 5*has 1;");
        all("the greatest", x, MENDED, 0, 0, 0, 1, 0, 2);
        LessonPurses y = besideEachOther();
        Make.person(y, 200, "add 5*has 0;");
        all("the greatest", y, MENDED, 0, 0, 0, 0, 2, 1);
        LessonPurses z = besideEachOther();
        z.places(0, 0);
        z.places(1, 0);
        all("till none is over", z, MENDED, 0, 0, 0, 0, 0);
    }

    /** Lessons of the same worth, whose prices overtake one another. */
    private static void mendedByTurns() {
        Check.about(25, "1 MENDED: as long as some LESSON is OVER above 0, the PRICE of that with the greatest OVER (of several the least) grows by STEP "
            + "(it may be above 250 here);");
        LessonPurses x = people(2, "add 5*has 0+5*has 1;never if count>1;", 2, 1);
        x.purse(0, 20);
        x.purse(1, 12);
        x.price(0, 10);
        x.price(1, 9);
        all("the first lesson is the cheaper one then", x, MENDED, 1, 1);
        x.price(0, 13);
        all("the first one can't be paid by one", x, MENDED, 1, 1);
        x.places(1, 2);
        all("both have the second lesson", x, MENDED, 2, 2);
        x.places(0, 1);
        x.places(1, 1);
        x.purse(1, 20);
        x.price(0, 10);
        all("till both are too dear: the first takes the first", x, MENDED, 1, 2);
        x.purse(0, 24);
        x.purse(1, 25);
        all("the second lesson for 24, then the first for 25, and the other one adds", x, MENDED, 2, 1);
        Make.wish(x, 0, "add 5*has 0+5*has 1+has 1;never if count>1;");
        all("one more worth", x, MENDED, 2, 1);
    }

    private static void mendedFar() {
        Check.about(25, "1 MENDED: as long as some LESSON is OVER above 0, the PRICE of that with the greatest OVER (of several the least) grows by STEP "
            + "(it may be above 250 here);");
        LessonPurses x = people(8, "add count;", 0, 0, 0, 0, 0, 0, 0, 0, 0, 0);
        for (int i = 0; i < 8; i++) x.purse(i, 200);
        x.step(1);
        x.most(6);
        all("from 0 to 201, ten times, by 1", x, MENDED, 0, 0, 0, 0, 0, 0, 0, 0);
        LessonPurses y = people(2, "add has 0;", 1);
        y.purse(0, 199);
        y.purse(1, 200);
        y.step(1);
        all("to 200", y, MENDED, 0, 1);
        y.purse(0, 200);
        all("to 201", y, MENDED, 1, 0);
        y.purse(0, 199);
        y.price(0, 200);
        all("at 200", y, MENDED, 0, 1);
        y.step(50);
        y.purse(0, 200);
        all("to 250", y, MENDED, 1, 0);
    }

    private static void mendedAdds() {
        Check.about(25, "each has what they BUY then; then, round by round, by numbers, each ADDS, till a round in which nobody does.");
        LessonPurses x = people(2, "add 9*has 0+8*has 1+7*has 2+6*has 3;", 1, 1, 1, 1);
        for (int i = 0; i < 4; i++) x.price(i, 250);
        all("each round by numbers", x, MENDED, 5, 10);
        x.price(3, 100);
        x.purse(0, 99);
        all("what they bought stays", x, MENDED, 5, 10);
        x.purse(1, 99);
        x.purse(0, 100);
        all("what they bought stays", x, MENDED, 13, 2);
        Make.wish(x, 0, "add 0-9*has 0;");
        all("a round in which only one does", x, MENDED, 0, 15);
        Make.wish(x, 1, "add 0-9*has 0;");
        all("nobody does", x, MENDED, 0, 0);
    }

    private static void turns() {
        Check.about(25, "2 TURNS: each ADDS by numbers, then from the last one back, then by numbers again, and so on, till all in such a row add nothing.");
        String wishes = "add 19*has 0+18*has 1+17*has 2+16*has 3+15*has 4+14*has 5+13*has 6+12*has 7;";
        LessonPurses x = people(3, wishes, 1, 1, 1, 1, 1, 1, 0, 0);
        all("forth and back", x, TURNS, 33, 18, 12);
        x.places(6, 1);
        all("and forth", x, TURNS, 33 + 64, 18, 12);
        x.places(7, 1);
        all("and the next", x, TURNS, 33 + 64, 18 + 128, 12);
        x.places(5, 0);
        all("the next best, and the turn is theirs again", x, TURNS, 1 + 64 + 128, 18, 12);
    }

    private static void turnsEnd() {
        Check.about(25, "2 TURNS: each ADDS by numbers, then from the last one back, then by numbers again, and so on, till all in such a row add nothing.");
        LessonPurses x = people(1, "add 5*count;", 1, 1, 1, 1, 1, 1, 1);
        Make.person(x, 100, "add 0-count;");
        all("one alone goes on till most", x, TURNS, 15, 0);
        x.most(6);
        all("one alone goes on till most", x, TURNS, 63, 0);
        Make.wish(x, 1, "add 5*count;");
        Make.wish(x, 0, "add 0-count;");
        all("the last one alone goes on", x, TURNS, 0, 63);
        Make.wish(x, 1, "add 9*has 0+8*has 2+7*has 5+6*has 1;");
        all("each in its turn", x, TURNS, 0, 39);
        all("each in its turn", x, BIDS, 0, 39);
        Make.wish(x, 1, "add 0-count;");
        all("nobody begins", x, TURNS, 0, 0);
        Check.due("no people", Make.apart(1).left(TURNS, 0), 1);
    }

    private static void addMoreWorth() {
        Check.about(25, "To ADD: of the LESSONS with PLACES left that aren't theirs and with which theirs is LAWFUL and of more WORTH the one with the most WORTH, "
            + "of several the least.");
        LessonPurses x = people(1, "add 7+has 0;", 1, 1, 1);
        all("of one more worth", x, TURNS, 1);
        Make.wish(x, 0, "add 7+0*has 0;");
        all("of as much worth", x, TURNS, 0);
        Make.wish(x, 0, "add 7-has 0;");
        all("of less worth", x, TURNS, 0);
        x.most(1);
        Make.wish(x, 0, "add 7*has 0+8*has 1+7*has 2;");
        all("the most worth", x, TURNS, 2);
        Make.wish(x, 0, "add 7*has 0+7*has 1+8*has 2;");
        all("the most worth", x, TURNS, 4);
        Make.wish(x, 0, "add 6*has 0+7*has 1+7*has 2;");
        all("of several the least", x, TURNS, 2);
        Make.wish(x, 0, "add 6*has 0+7*has 1+7*has 2;never if has 1=1;");
        all("lawful", x, TURNS, 4);
        x.most(2);
        Make.wish(x, 0, "add 6*has 0+7*has 1;never if count=1;");
        all("not over what isn't lawful", x, TURNS, 0);
        Make.wish(x, 0, "add 6*has 0+7*has 1;never if count=0;");
        all("from what isn't lawful", x, TURNS, 3);
        Make.wish(x, 0, "add 9*has 1+5 if has 0=1;add has 0;");
        all("more worth to what is theirs", x, TURNS, 3);
        Make.wish(x, 0, "add 0-5;add 5*has 0;");
        all("up to 0", x, TURNS, 1);
    }

    private static void addPlaces() {
        Check.about(25, "To ADD: of the LESSONS with PLACES left that aren't theirs and with which theirs is LAWFUL and of more WORTH the one with the most WORTH, "
            + "of several the least.");
        LessonPurses x = people(3, "add 7*has 0+6*has 1;never if count>1;", 1, 1);
        all("one place each", x, TURNS, 1, 2, 0);
        x.places(0, 0);
        all("no place", x, TURNS, 2, 0, 0);
        x.places(0, 2);
        all("two places", x, TURNS, 1, 1, 2);
        x.places(0, 3);
        all("three places", x, TURNS, 1, 1, 1);
        for (int who = 0; who < 3; who++) Make.wish(x, who, "add 7*has 0+6*has 1+9*count;");
        all("the last one back has the other one", x, TURNS, 1, 1, 3);
        Make.wish(x, 2, "add 7*has 0+8*has 1;");
        all("a place that is gone", x, TURNS, 1, 1, 3);
    }

    private static void bidsMoreThanNothing() {
        Check.about(25, "3 BIDS: of all people and LESSONS with the LESSON alone of more WORTH than nothing, by how much "
            + "(the most first, then people by numbers, then LESSONS): each gets it, if there is a PLACE and theirs is LAWFUL with it.");
        LessonPurses x = people(1, "add has 0;", 1, 1);
        all("one more than nothing", x, BIDS, 1);
        Make.wish(x, 0, "add 0*has 0;");
        all("as much as nothing", x, BIDS, 0);
        Make.wish(x, 0, "add 5-has 0;");
        all("less than nothing, though above 0", x, BIDS, 0);
        Make.wish(x, 0, "add has 0-5;");
        all("more than nothing, though below 0", x, BIDS, 1);
        Make.wish(x, 0, "add 9 if count=2;add has 0;");
        all("the lesson alone counts", x, BIDS, 1);
        Make.wish(x, 0, "add has 0+has 1-9*has 0*has 1;");
        all("the lesson alone counts, though both are less", x, BIDS, 3);
        Make.wish(x, 0, "add 0-10000*100;add 10000*200*has 0;");
        all("the most there is", x, BIDS, 1);
    }

    private static void bidsInOrder() {
        Check.about(25, "3 BIDS: of all people and LESSONS with the LESSON alone of more WORTH than nothing, by how much "
            + "(the most first, then people by numbers, then LESSONS): each gets it, if there is a PLACE and theirs is LAWFUL with it.");
        LessonPurses x = people(2, "add 7*has 0;", 1, 1);
        all("as much: people by numbers", x, BIDS, 1, 0);
        Make.wish(x, 1, "add 8*has 0;");
        all("the most first", x, BIDS, 0, 1);
        Make.wish(x, 1, "add 6*has 0;");
        all("one less", x, BIDS, 1, 0);
        Make.wish(x, 0, "add 50+7*has 0;");
        Make.wish(x, 1, "add 8*has 0;");
        all("by how much it's more than nothing", x, BIDS, 0, 1);
        Make.wish(x, 0, "add 7*has 0+7*has 1;never if count>1;");
        Make.wish(x, 1, "");
        all("as much: the least lesson", x, BIDS, 1, 0);
        Make.wish(x, 0, "add 7*has 0+8*has 1;never if count>1;");
        all("the most first", x, BIDS, 2, 0);
        Make.wish(x, 1, "add 9*has 1;");
        all("its place is gone", x, BIDS, 1, 2);
        x.places(1, 2);
        all("two places", x, BIDS, 2, 2);
        x.places(1, 0);
        all("no place", x, BIDS, 1, 0);
        LessonPurses y = Make.full();
        for (int i = 0; i < 8; i++) Make.wish(y, i, i == 7 ? "add 9*has 9;" : "");
        Check.due("the last lesson lacks what comes before it", y.has(BIDS, 7), 0);
        y.places(9, 9);
        LessonPurses z = people(7, "", 1, 1, 1, 1, 1, 1, 1, 1, 1, 1);
        Make.person(z, 0, "add has 9;");
        all("the last person, the last lesson", z, BIDS, 0, 0, 0, 0, 0, 0, 0, 512);
        LessonPurses each = people(8, "add count;", 0, 0, 0, 0, 0, 0, 0, 0, 0, 8);
        all("each for each lesson: the last of eighty, too", each, BIDS, 512, 512, 512, 512, 512, 512, 512, 512);
        each.places(9, 7);
        all("each for each lesson: no place for the last one", each, BIDS, 512, 512, 512, 512, 512, 512, 512, 0);
    }

    private static void bidsLawful() {
        Check.about(25, "3 BIDS: of all people and LESSONS with the LESSON alone of more WORTH than nothing, by how much "
            + "(the most first, then people by numbers, then LESSONS): each gets it, if there is a PLACE and theirs is LAWFUL with it.");
        LessonPurses x = people(1, "add 7*has 0+8*has 1;", 1, 1, 1);
        x.after(1, 0);
        all("not lawful when it was its turn", x, BIDS, 1);
        Make.wish(x, 0, "add 8*has 0+7*has 1;");
        all("lawful with what is theirs", x, BIDS, 3);
        Make.wish(x, 0, "add 8*has 0+7*has 1+6*has 2;never if has 1=1;");
        all("never", x, BIDS, 5);
        x.most(1);
        all("no more than most", x, BIDS, 1);
        x.most(2);
        Make.wish(x, 0, "add 8*has 0+7*has 2+6*has 1;");
        all("no more than most", x, BIDS, 5);
        Make.wish(x, 0, "add 8*has 0+7*has 2;never if count<1;");
        all("from what isn't lawful", x, BIDS, 5);
    }

    private static void serial() {
        Check.about(25, "4 SERIAL: by numbers each takes the LAWFUL BUNDLE of the most WORTH from LESSONS with PLACES left, of these the least bits "
            + "(none LAWFUL: none).");
        LessonPurses x = people(3, "add 7*has 0+6*has 1+5*has 2;never if count>1;", 1, 1, 0);
        all("by numbers", x, SERIAL, 1, 2, 0);
        x.places(2, 1);
        all("one place more", x, SERIAL, 1, 2, 4);
        x.places(0, 2);
        all("two places", x, SERIAL, 1, 1, 2);
        x.places(0, 0);
        all("no place", x, SERIAL, 2, 4, 0);
        x.places(0, 1);
        Make.wish(x, 0, "add 7*has 0+7*has 1+7*has 2;never if count>1;");
        all("the least bits", x, SERIAL, 1, 2, 4);
        Make.wish(x, 0, "add 7*has 0+7*has 1+8*has 2;never if count>1;");
        all("the most worth", x, SERIAL, 4, 1, 2);
        Make.wish(x, 0, "add 7*has 0+8*has 1+15*has 2;never if count=3 or has 2=1 and count=2;");
        all("two for as much: the least bits", x, SERIAL, 3, 4, 0);
        Make.wish(x, 0, "add 7*has 0+8*has 1+16*has 2;never if count=3 or has 2=1 and count=2;");
        all("one more worth", x, SERIAL, 4, 1, 2);
        Make.wish(x, 0, "add 0*count;");
        all("nothing is as good", x, SERIAL, 0, 1, 2);
        x.price(0, 250);
        all("prices are nothing to it", x, SERIAL, 0, 1, 2);
    }

    private static void serialNone() {
        Check.about(25, "4 SERIAL: by numbers each takes the LAWFUL BUNDLE of the most WORTH from LESSONS with PLACES left, of these the least bits "
            + "(none LAWFUL: none).");
        LessonPurses x = people(2, "add 7*has 0;never if count=0;", 1);
        all("none is lawful from what is left", x, SERIAL, 1, 0);
        Check.due("nobody more has it", x.left(SERIAL, 0), 0);
        Make.wish(x, 0, "never;");
        all("none is lawful", x, SERIAL, 0, 1);
        Make.wish(x, 0, "add 0-7;never if count=0;");
        all("of less worth than nothing, but lawful alone", x, SERIAL, 1, 0);
    }

    private static void left() {
        Check.about(26, "PLACES of a LESSON less those who have it in a WAY.");
        LessonPurses x = people(3, "add 7*has 0;", 2, 9);
        x.give(0, 1);
        Check.due("one of two", x.left(HAND, 0), 1);
        x.give(1, 3);
        Check.due("two of two", x.left(HAND, 0), 0);
        x.give(2, 1);
        Check.due("three of two", x.left(HAND, 0), -1);
        Check.due("one of nine", x.left(HAND, 1), 8);
        Check.due("priced", x.left(PRICED, 0), -1);
        Check.due("mended", x.left(MENDED, 0), 0);
        Check.due("turns", x.left(TURNS, 0), 0);
        Check.due("bids", x.left(BIDS, 0), 0);
        Check.due("serial", x.left(SERIAL, 0), 0);
        Check.due("serial: nobody", x.left(SERIAL, 1), 9);
        LessonPurses y = people(8, "add 7*has 0;", 0);
        Check.due("eight of none", y.left(PRICED, 0), -8);
        Check.about(26, "-100: none such.");
        int[][] wrong = {{-1, 0}, {6, 0}, {0, -1}, {0, 6}, {5, 6}};
        for (int[] w : wrong) Snapshot.refused("left(" + w[0] + ", " + w[1] + ")", Make::busy, z -> z.left(w[0], w[1]), -100);
        Check.due("the last ones", Make.busy().left(5, 5), 1);
    }

    private static void sum() {
        Check.about(27, "All WORTHS in a WAY together (to each their own).");
        LessonPurses x = Make.apart(1, 1);
        Check.due("nobody", x.sum(HAND), 0);
        Make.person(x, 100, "add 5*has 0+7*has 1;");
        Make.person(x, 100, "add 50*has 0-70*has 1;");
        Check.due("nothing", x.sum(HAND), 0);
        x.give(0, 1);
        x.give(1, 2);
        Check.due("to each their own", x.sum(HAND), 5 - 70);
        x.give(0, 3);
        x.give(1, 3);
        Check.due("to each their own", x.sum(HAND), 12 - 20);
        Check.due("priced", x.sum(PRICED), 12 + 50);
        Check.due("mended", x.sum(MENDED), 12);
        Check.due("turns", x.sum(TURNS), 7 + 50);
        Check.due("bids", x.sum(BIDS), 7 + 50);
        Check.due("serial", x.sum(SERIAL), 12);
        LessonPurses most = people(8, "add 99999*99999;", 1);
        Check.due("the most there can be", most.sum(HAND), 8000000);
        LessonPurses least = people(8, "add 0-99999*99999;", 1);
        Check.due("the least there can be", least.sum(SERIAL), -8000000);
        Check.about(27, "-2,000,000,000: none such.");
        Snapshot.refused("sum(-1)", Make::busy, y -> y.sum(-1), -2000000000);
        Snapshot.refused("sum(6)", Make::busy, y -> y.sum(6), -2000000000);
    }

    private static void judgedPeople() {
        Check.about(37, "JUDGED: of HAND the first of people with what BARS their BUNDLE (10 times the person, and what bars),");
        LessonPurses x = Make.apart(9, 9, 9);
        x.lesson(9, 0, 1);
        for (int i = 0; i < 8; i++) x.person(0, 0);
        x.most(2);
        x.after(1, 0);
        x.give(7, 7);
        Check.due("the last one: 2", x.judge(), 72);
        x.give(7, 9);
        Check.due("the last one: 3", x.judge(), 73);
        x.give(7, 2);
        Check.due("the last one: 4", x.judge(), 74);
        Make.wish(x, 7, "never if has 2=1;");
        x.give(7, 4);
        Check.due("the last one: 5", x.judge(), 75);
        x.give(1, 2);
        Check.due("the first of people", x.judge(), 14);
        x.give(0, 9);
        Check.due("the first of people", x.judge(), 3);
        x.give(0, 3);
        Check.due("most of them are no more", x.judge(), 14);
        Make.wish(x, 0, "never if count=2;");
        Check.due("never", x.judge(), 5);
        x.give(0, 0);
        Make.wish(x, 0, "never if count=0;");
        Check.due("nothing is barred, too", x.judge(), 5);
        Check.about(37, "NONE: nothing.");
        Check.due("a new object", new LessonPurses().judge(), -1);
        Check.due("no people", Make.apart(0).judge(), -1);
        Check.due("nothing given", people(2, "", 0, 0).judge(), -1);
    }

    private static void judgedLessons() {
        Check.about(37, "then the first LESSON with more than its PLACES (1,000 and it); NONE.");
        LessonPurses x = new LessonPurses();
        for (int i = 0; i < 10; i++) x.lesson(2, 4 * i, 4 * i + 4);
        for (int i = 0; i < 3; i++) x.person(0, 0);
        x.give(0, 512);
        Check.due("one of two", x.judge(), -1);
        x.give(1, 512);
        Check.due("two of two", x.judge(), -1);
        x.give(2, 512);
        Check.due("three of two", x.judge(), 1009);
        for (int i = 0; i < 3; i++) x.give(i, 512 + 16);
        Check.due("the first lesson", x.judge(), 1004);
        x.places(0, 0);
        x.give(2, 512 + 16 + 1);
        Check.due("one of none", x.judge(), 1000);
        x.most(1);
        Check.due("people come first", x.judge(), 2);
        Check.about(37, "JUDGED.");
        x.most(4);
        for (int i = 0; i < 10; i++) x.places(i, 3);
        Check.due("places for all", x.judge(), -1);
    }
}
