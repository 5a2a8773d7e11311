/** Promises 24 to 27 and 37: who has what in each way, and what is judged of the hand's. */
public final class WaysTest {
    public static void main(String[] args) {
        give();
        priced();
        mended();
        mendedOfTwo();
        mendedAdds();
        mendedLong();
        turns();
        adding();
        bids();
        serial();
        leftAndSum();
        judge();
        Check.end("WaysTest");
    }

    static LessonPurses apart(int... places) {
        LessonPurses x = new LessonPurses();
        for (int i = 0; i < places.length; i++) x.lesson(places[i], 2 * i, 2 * i + 2);
        return x;
    }

    static void person(LessonPurses x, int purse, String wishes) {
        int number = x.person(purse, 0);
        Check.due(wishes, Check.wish(x, number, wishes) > 0, true);
    }

    static void all(String what, LessonPurses x, int way, int... bundles) {
        for (int who = 0; who < bundles.length; who++) Check.due(what + ": has(" + way + ", " + who + ")", x.has(way, who), bundles[who]);
    }

    private static void give() {
        LessonPurses x = apart(1, 1);
        x.person(10, 0);
        x.person(10, 0);
        Check.due("give(0, 3)", x.give(0, 3), true);
        Check.due("not told", x.give(0, 4), false);
        Check.due("no bits", x.give(0, -1), false);
        Check.due("no bits", x.give(0, 1024), false);
        Check.due("no such person", x.give(2, 0), false);
        Check.due("no such person", x.give(-1, 0), false);
        all("hand", x, 5, 3, 0);
        x.lesson(1, 0, 1);
        Check.due("told now, clashing all the same", x.give(0, 7), true);
        all("hand", x, 5, 7, 0);
        Check.due("again", x.give(0, 0), true);
        all("hand", x, 5, 0, 0);
        for (int way : new int[] {-1, 6}) Check.due("has: no such way", x.has(way, 0), -1);
        for (int who : new int[] {-1, 2}) Check.due("has: no such person", x.has(0, who), -1);
    }

    private static void priced() {
        LessonPurses x = apart(1, 1);
        person(x, 100, "add 10*has 0+5*has 1;");
        person(x, 50, "add 10*has 0+5*has 1;");
        all("priced, over", x, 0, 3, 3);
        Check.due("left", x.left(0, 0), -1);
        x.price(0, 60);
        x.price(1, 50);
        all("priced", x, 0, 1, 2);
        Check.due("left", x.left(0, 0), 0);
    }

    private static void mended() {
        LessonPurses x = apart(1);
        person(x, 100, "add 10*has 0;");
        person(x, 90, "add 10*has 0;");
        all("mended", x, 1, 1, 0);
        x.purse(1, 110);
        all("mended", x, 1, 0, 1);
        Check.due("prices as told", x.count(7), 0);
        x.purse(1, 104);
        all("nobody buys, then the first adds", x, 1, 1, 0);
        x.step(1);
        all("a smaller step", x, 1, 0, 1);
        x.places(0, 0);
        all("no places", x, 1, 0, 0);
        x.places(0, 1);
        x.price(0, 250);
        all("too dear for all, then the first adds", x, 1, 1, 0);
    }

    private static void mendedOfTwo() {
        LessonPurses x = apart(2, 1);
        x.step(50);
        person(x, 99, "add 9*has 0+10*has 1;");
        person(x, 49, "add 9*has 0+10*has 1;");
        person(x, 49, "add 9*has 0+10*has 1;");
        all("the first buys the second alone, then two add the first", x, 1, 3, 1, 0);
        x.places(1, 2);
        x.purse(0, 49);
        all("nobody buys, all add", x, 1, 3, 2, 1);
        Check.due("left", x.left(1, 0), 0);
    }

    private static void mendedAdds() {
        LessonPurses x = apart(2, 1, 1);
        person(x, 60, "add 10*has 0+8*has 1+7*has 2;");
        person(x, 60, "add 10*has 0+8*has 1+7*has 2;");
        x.price(0, 55);
        x.price(1, 200);
        x.price(2, 200);
        all("each adds one a round, without paying", x, 1, 3, 5);
        x.places(1, 2);
        all("places are enough", x, 1, 7, 3);
    }

    /** Every lesson's price must grow beyond the greatest purse, by the least step. */
    private static void mendedLong() {
        LessonPurses x = apart(0, 0, 0, 0, 0, 0, 0, 0, 0, 0);
        x.step(1);
        person(x, 200, "add count;");
        person(x, 200, "add count*2;");
        all("dear enough for all", x, 1, 0, 0);
        Check.due("left", x.left(1, 9), 0);
    }

    private static void turns() {
        LessonPurses x = apart(1, 1, 1);
        String same = "add 30*has 0+20*has 1+10*has 2;";
        person(x, 100, same);
        person(x, 100, same);
        all("forth and back", x, 2, 1, 6);
        x.lesson(1, 10, 12);
        Check.wish(x, 0, "add 30*has 0+20*has 1+10*has 2+9*has 3;");
        Check.wish(x, 1, "add 30*has 0+20*has 1+10*has 2+9*has 3;");
        all("the last of a row begins the next", x, 2, 9, 6);
        x.lesson(1, 12, 14);
        String five = "add 30*has 0+20*has 1+10*has 2+9*has 3+8*has 4;";
        Check.wish(x, 0, five);
        Check.wish(x, 1, five);
        all("and forth again", x, 2, 25, 6);
        x.most(1);
        all("no more than most", x, 2, 1, 2);
        Check.wish(x, 0, "never if has 0=1;add 5*has 0+3*has 3+3*has 4;");
        all("lawful, of several the least", x, 2, 8, 1);
    }

    private static void adding() {
        LessonPurses x = apart(1, 1, 0);
        person(x, 100, "add 5-has 0+9*has 2;add 7 if has 0=1 and has 1=1;");
        all("nothing alone is of more worth", x, 2, 0);
        Check.wish(x, 0, "add 0-has 0*0;add has 1;add 7 if has 0=1 and has 1=1;");
        all("first the one, then the other", x, 2, 3);
        x.after(1, 0);
        all("not lawful without the other", x, 2, 0);
        Check.wish(x, 0, "add has 0+has 1;never if count=0;");
        all("from what isn't lawful to what is", x, 2, 3);
        Check.wish(x, 0, "add has 0+has 1;never if count=1;");
        all("no way over one", x, 2, 0);
    }

    private static void bids() {
        LessonPurses x = apart(1, 1);
        person(x, 0, "add 50+10*has 0+20*has 1;");
        person(x, 0, "add 15*has 0+20*has 1;");
        all("as much: the lesser person", x, 3, 2, 1);
        Check.wish(x, 1, "add 15*has 0+21*has 1;");
        all("the most first", x, 3, 0, 3);
        Check.wish(x, 1, "add 15*has 0+21*has 1;never if count>1;");
        all("lawful", x, 3, 1, 2);
        Check.wish(x, 1, "add 0-5;add 21*has 1;never if has 1=1 and count=1;");
        all("lawful with what one has", x, 3, 3, 0);
        Check.wish(x, 0, "add 9-has 0-0*has 1;");
        all("more than nothing", x, 3, 0, 0);
        Check.wish(x, 0, "add 7*has 0+7*has 1;never if count>1;");
        all("as much: the lesser lesson", x, 3, 1, 0);
    }

    private static void serial() {
        LessonPurses x = apart(1, 2, 1);
        person(x, 0, "add 10*has 0+5*has 1-has 2;");
        person(x, 0, "add 10*has 0+5*has 1;");
        person(x, 0, "add 10*has 0+5*has 1+has 2;");
        all("by numbers", x, 4, 3, 2, 4);
        Check.wish(x, 0, "add 10*has 0;");
        all("of these the least bits", x, 4, 1, 2, 6);
        Check.wish(x, 0, "never;");
        all("none lawful", x, 4, 0, 3, 6);
        Check.wish(x, 0, "add 0-count;never if count<2;");
        all("least bits of those below 0", x, 4, 3, 2, 4);
    }

    private static void leftAndSum() {
        LessonPurses x = apart(2, 0);
        person(x, 100, "add 4+10*has 0+5*has 1;");
        person(x, 100, "add 20*has 0-30*has 1;");
        x.give(0, 3);
        x.give(1, 3);
        Check.due("left(5, 0)", x.left(5, 0), 0);
        Check.due("left(5, 1)", x.left(5, 1), -2);
        Check.due("sum(5)", x.sum(5), 19 - 10);
        Check.due("left(0, 1)", x.left(0, 1), -1);
        Check.due("sum(0)", x.sum(0), 39);
        Check.due("left(4, 0)", x.left(4, 0), 0);
        Check.due("left(4, 1)", x.left(4, 1), 0);
        Check.due("sum(4)", x.sum(4), 34);
        Check.due("sum(1)", x.sum(1), 34);
        Check.wish(x, 0, "add 7;never;");
        Check.due("none, by the wishes", x.sum(4), 27);
        for (int way : new int[] {-1, 6}) {
            Check.due("left: no such way", x.left(way, 0), -100);
            Check.due("sum: no such way", x.sum(way), -2000000000);
        }
        Check.due("left: no such lesson", x.left(0, 2), -100);
        Check.due("left: no such lesson", x.left(0, -1), -100);
    }

    private static void judge() {
        LessonPurses x = apart(1, 1, 1);
        x.lesson(1, 0, 1);
        x.person(0, 0);
        x.person(0, 0);
        x.person(0, 0);
        Check.due("nothing", x.judge(), -1);
        x.give(1, 4);
        x.give(2, 4);
        Check.due("more than its places", x.judge(), 1002);
        x.give(0, 2);
        x.give(1, 6);
        Check.due("the first lesson", x.judge(), 1001);
        x.give(2, 9);
        Check.due("people come first", x.judge(), 23);
        x.after(1, 0);
        Check.due("the first of people", x.judge(), 4);
        x.most(1);
        x.give(0, 0);
        Check.due("too many", x.judge(), 12);
        Check.wish(x, 0, "never if count=0;");
        Check.due("never", x.judge(), 5);
    }
}
