/** Promises 16 to 23, 34 and 35: what is bought at prices, and the search for prices. */
public final class MarketTest {
    public static void main(String[] args) {
        buys();
        nothingCanBePaid();
        dear();
        overAndSquare();
        fitUp();
        fitDown();
        fitEnds();
        fitTogether();
        fitPrefersTheFirst();
        fitKeepsEight();
        settle();
        must();
        mustOfThree();
        why();
        ties();
        edge();
        Check.end("MarketTest");
    }

    /** Lessons at hours of their own, so many places each. */
    private static LessonPurses apart(int... places) {
        LessonPurses x = new LessonPurses();
        for (int i = 0; i < places.length; i++) x.lesson(places[i], 2 * i, 2 * i + 2);
        return x;
    }

    private static void person(LessonPurses x, int purse, String wishes) {
        int number = x.person(purse, 0);
        Check.due(wishes, Check.wish(x, number, wishes) > 0, true);
    }

    private static void bought(LessonPurses x, int who, int bits, int price, int worth) {
        Check.due("buys(" + who + ", 0)", x.buys(who, 0), bits);
        Check.due("buys(" + who + ", 1)", x.buys(who, 1), price);
        Check.due("buys(" + who + ", 2)", x.buys(who, 2), worth);
    }

    private static void buys() {
        LessonPurses x = apart(1, 1, 1);
        person(x, 100, "add 10*has 0+10*has 1+30*has 2;");
        bought(x, 0, 7, 0, 50);
        x.price(0, 50);
        x.price(1, 40);
        x.price(2, 50);
        bought(x, 0, 6, 90, 40);
        x.price(1, 50);
        bought(x, 0, 5, 100, 40);
        x.price(2, 101);
        bought(x, 0, 3, 100, 20);
        x.price(1, 51);
        bought(x, 0, 1, 50, 10);
        x.price(1, 49);
        x.price(0, 52);
        bought(x, 0, 2, 49, 10);
        x.most(1);
        x.price(2, 100);
        bought(x, 0, 4, 100, 30);
        Check.wish(x, 0, "add 0-5*count;");
        bought(x, 0, 0, 0, 0);
        Check.wish(x, 0, "add 3-5*count;never if count=0;");
        bought(x, 0, 2, 49, -2);
        person(x, 0, "add 1;");
        bought(x, 1, 0, 0, 1);
        Check.due("no such person", x.buys(2, 0), -2000000);
        Check.due("no such person", x.buys(-1, 0), -2000000);
        Check.due("no such thing", x.buys(0, 3), -2000000);
        Check.due("no such thing", x.buys(0, -1), -2000000);
    }

    private static void nothingCanBePaid() {
        LessonPurses x = apart(1, 1);
        person(x, 10, "add 7;never if count<1;");
        person(x, 10, "add 0-7;never if count<1;");
        person(x, 10, "never;");
        x.price(0, 20);
        x.price(1, 15);
        for (int who = 0; who < 3; who++) {
            bought(x, who, 0, 0, 0);
            Check.due("ties(" + who + ")", x.ties(who), -1);
        }
        Check.due("dear: more than nothing", x.dear(0), 5);
        Check.due("dear: less than nothing", x.dear(1), -1);
        Check.due("dear: never", x.dear(2), -1);
        Check.due("why", x.why(0, 0, 0), 3);
        Check.due("why", x.why(0, 0, 1), 10);
        Check.due("why", x.why(1, 0, 0), 2);
        Check.due("why", x.why(2, 0, 0), 1);
        Check.due("edge", x.edge(0, 1), 11);
        Check.due("has", x.has(0, 0), 0);
    }

    private static void dear() {
        LessonPurses x = apart(1, 1);
        person(x, 100, "add 10*has 0+12*has 1;");
        Check.due("all is bought", x.dear(0), -1);
        x.price(0, 120);
        x.price(1, 110);
        Check.due("the least price", x.dear(0), 10);
        x.price(1, 100);
        Check.due("both together", x.dear(0), 120);
        x.price(0, 1);
        Check.due("both together", x.dear(0), 1);
        x.after(1, 0);
        x.price(0, 101);
        x.price(1, 0);
        Check.due("lawful ones alone", x.dear(0), 1);
        Check.due("no such person", x.dear(1), -2);
        Check.due("no such person", x.dear(-1), -2);
    }

    private static void overAndSquare() {
        LessonPurses x = apart(1, 2, 3);
        for (int i = 0; i < 3; i++) person(x, 100, "add 10*has 0+10*has 1-has 2;");
        Check.due("over(0)", x.over(0), 2);
        Check.due("over(1)", x.over(1), 1);
        Check.due("below 0, price 0", x.over(2), 0);
        Check.due("square()", x.square(), 5);
        x.price(2, 1);
        Check.due("below 0, a price", x.over(2), -3);
        Check.due("square()", x.square(), 14);
        x.price(1, 101);
        Check.due("too dear", x.over(1), -2);
        Check.due("square()", x.square(), 17);
        x.places(0, 3);
        Check.due("just so", x.over(0), 0);
        Check.due("square()", x.square(), 13);
        Check.due("no such lesson", x.over(3), -100);
        Check.due("no such lesson", x.over(-1), -100);
    }

    private static void fitUp() {
        LessonPurses x = apart(1);
        person(x, 100, "add 10*has 0;");
        person(x, 90, "add 10*has 0;");
        Check.due("square", x.fit(18, 0), 1);
        Check.due("went on", x.fit(18, 1), 18);
        Check.due("the first of the least", x.fit(18, 10), 0);
        Check.due("square", x.fit(19, 0), 0);
        Check.due("price", x.fit(19, 10), 95);
        Check.due("it ends", x.fit(60, 1), 19);
        Check.due("nothing is told by it", x.count(7), 0);
        x.step(50);
        Check.due("another step", x.fit(60, 1), 2);
        Check.due("price", x.fit(60, 10), 100);
        for (int n : new int[] {0, 61, -1}) Check.due("fit(" + n + ", 0)", x.fit(n, 0), -1);
        for (int what : new int[] {-1, 2, 9, 11, 20}) Check.due("fit(1, " + what + ")", x.fit(1, what), -1);
    }

    private static void fitDown() {
        LessonPurses x = apart(1);
        person(x, 100, "add 10*has 0;");
        x.price(0, 250);
        x.step(40);
        Check.due("went on", x.fit(60, 1), 4);
        Check.due("price", x.fit(60, 10), 90);
        Check.due("square", x.fit(3, 0), 1);
        x.places(0, 2);
        x.price(0, 30);
        Check.due("0 at least", x.fit(1, 10), 0);
        Check.due("and no longer over", x.fit(1, 0), 0);
        Check.due("it ends", x.fit(60, 1), 1);
    }

    private static void fitEnds() {
        LessonPurses x = apart(1);
        person(x, 100, "add 10*has 0;");
        person(x, 100, "add 10*has 0;");
        Check.due("back is where it came from", x.fit(60, 1), 21);
        Check.due("square", x.fit(60, 0), 1);
        x.price(0, 100);
        Check.due("the first row, too", x.fit(60, 1), 1);
        x.places(0, 0);
        x.price(0, 0);
        x.step(50);
        Check.due("steps, then dear enough for all", x.fit(60, 1), 2);
        Check.due("all at once is further", x.fit(60, 10), 150);
    }

    private static void fitTogether() {
        LessonPurses x = apart(1, 1);
        for (int i = 0; i < 3; i++) person(x, 100, "add 10*has 0+10*has 1;");
        x.step(20);
        Check.due("square", x.square(), 8);
        Check.due("square", x.fit(2, 0), 8);
        Check.due("square", x.fit(3, 0), 5);
        Check.due("went on", x.fit(3, 1), 3);
        Check.due("each by over times step", x.fit(3, 10), 80);
        Check.due("each by over times step", x.fit(3, 11), 40);
    }

    private static void fitPrefersTheFirst() {
        LessonPurses x = apart(1, 1);
        for (int i = 0; i < 3; i++) person(x, 50, "add 10*has 0+10*has 1;");
        x.price(0, 24);
        x.price(1, 24);
        Check.due("square", x.square(), 8);
        Check.due("the first lesson's row", x.fit(1, 10), 29);
        Check.due("the other price stays", x.fit(1, 11), 24);
        Check.due("square", x.fit(1, 0), 5);
    }

    /** Here it would end behind 20 steps with seven rows kept, behind 16 with nine. */
    private static void fitKeepsEight() {
        LessonPurses x = apart(1, 1, 1);
        person(x, 37, "add 9*has 0+1*has 1+9*has 2;");
        person(x, 22, "add 8*has 0+4*has 1+3*has 2;");
        Check.due("went on", x.fit(60, 1), 60);
        Check.due("square", x.fit(60, 0), 1);
    }

    private static void settle() {
        LessonPurses x = apart(1, 1);
        person(x, 100, "add 10*has 0;");
        person(x, 90, "add 10*has 0;");
        x.price(1, 3);
        Check.due("settle(0)", x.settle(0), false);
        Check.due("settle(61)", x.settle(61), false);
        Check.due("nothing done", x.count(7), 3);
        Check.due("settle(1)", x.settle(1), true);
        Check.due("the row for nobody comes down", x.count(7), 0);
        Check.due("settle(60)", x.settle(60), true);
        Check.due("square", x.square(), 0);
        Check.due("prices", x.count(7), 95);
        Check.due("bought", x.buys(0, 1), 95);
        Check.due("not bought", x.buys(1, 0), 0);
    }

    private static void must() {
        LessonPurses x = new LessonPurses();
        Check.due("no lesson", x.must(5), -1);
        x.lesson(1, 0, 1);
        person(x, 100, "add 10*has 0;");
        person(x, 78, "add 10*has 0;");
        Check.due("must(100)", x.must(100), 0);
        Check.due("must(101)", x.must(101), 1);
        Check.due("must(250)", x.must(250), 1);
        Check.due("must(79)", x.must(79), 0);
        Check.due("must(4): 76 is the last", x.must(4), 1);
        Check.due("must(5): 95 is the last", x.must(5), 0);
        Check.due("must(1): 19 is the last", x.must(1), 1);
        x.purse(1, 75);
        Check.due("must(4): 76 is the last", x.must(4), 0);
        Check.due("must(0)", x.must(0), -1);
        Check.due("must(251)", x.must(251), -1);
        Check.due("must(-5)", x.must(-5), -1);
        Check.due("prices as told", x.count(7), 0);
        x.places(0, 0);
        x.purse(0, 200);
        Check.due("250 is one of them", x.must(250), 0);
        x.places(0, 2);
        Check.due("0 is one of them", x.must(250), 0);
    }

    private static void mustOfThree() {
        LessonPurses x = apart(0, 1, 1);
        person(x, 100, "add 10*has 0+10*has 1+11*has 2;");
        person(x, 100, "add 10*has 0+10*has 1+9*has 2;");
        Check.due("as told", x.square(), 6);
        Check.due("only the first one goes", x.must(101), 2);
        Check.due("each its own", x.must(60), 0);
        x.lesson(1, 20, 21);
        Check.due("four lessons", x.must(100), -1);
    }

    private static void why() {
        LessonPurses x = apart(1, 1, 1, 1);
        person(x, 100, "add 10*has 0+20*has 1+5*has 2-has 2*6;never if has 3=1;");
        x.price(1, 103);
        Check.due("bought", x.why(0, 0, 0), 0);
        Check.due("bought", x.why(0, 0, 1), -1);
        Check.due("too dear", x.why(0, 1, 0), 3);
        Check.due("by how much", x.why(0, 1, 1), 3);
        Check.due("not wanted", x.why(0, 2, 0), 3);
        Check.due("with another one", x.why(0, 2, 1), 3);
        x.price(1, 0);
        Check.due("not wanted", x.why(0, 2, 0), 2);
        Check.due("not wanted", x.why(0, 2, 1), -1);
        Check.due("not lawful", x.why(0, 3, 0), 1);
        Check.due("not lawful", x.why(0, 3, 1), -1);
        x.price(0, 60);
        x.price(1, 45);
        Check.due("least price of such", x.why(0, 0, 1), 5);
        for (int[] w : new int[][] {{1, 0, 0}, {-1, 0, 0}, {0, 4, 0}, {0, -1, 0}, {0, 0, 2}, {0, 0, -1}}) {
            Check.due("why " + w[0] + " " + w[1] + " " + w[2], x.why(w[0], w[1], w[2]), -1);
        }
    }

    private static void ties() {
        LessonPurses x = apart(1, 1, 1);
        person(x, 100, "add 10*has 0+10*has 1+10*has 2;never if count>1;");
        person(x, 100, "add 10;");
        Check.due("two others", x.ties(0), 2);
        Check.due("all others", x.ties(1), 7);
        x.price(0, 100);
        Check.due("dearer ones before it, too", x.ties(0), 2);
        x.price(0, 101);
        Check.due("that can be paid", x.ties(0), 1);
        Check.due("that can be paid", x.ties(1), 3);
        x.price(1, 100);
        Check.due("dearer ones, too", x.ties(0), 1);
        Check.due("no such person", x.ties(2), -1);
        Check.due("no such person", x.ties(-1), -1);
    }

    private static void edge() {
        LessonPurses x = new LessonPurses();
        x.lesson(1, 0, 2);
        x.lesson(1, 1, 3);
        x.lesson(1, 5, 6);
        person(x, 100, "add 30*has 0+30*has 1-has 2;");
        x.price(1, 10);
        Check.due("as dear: the least bits", x.edge(0, 0), 11);
        x.price(0, 10);
        Check.due("as dear: the least bits", x.edge(0, 1), 10);
        x.price(0, 200);
        Check.due("all the purse", x.edge(0, 1), 101);
        Check.due("never bought", x.edge(0, 2), 0);
        Check.due("the price is as told then", x.count(7), 210);
        Check.wish(x, 0, "add 30*has 0+30*has 1+9*has 2;");
        x.price(1, 95);
        Check.due("beside another one", x.edge(0, 2), 6);
        x.purse(0, 200);
        x.price(1, 250);
        x.price(0, 250);
        Check.due("the greatest purse", x.edge(0, 2), 201);
        for (int[] w : new int[][] {{1, 0}, {-1, 0}, {0, 3}, {0, -1}}) Check.due("edge " + w[0] + " " + w[1], x.edge(w[0], w[1]), -1);
    }
}
