/** The edges of promises 16 to 23, 34 and 35: what is bought at prices, and the search for prices. */
public final class EdgesOfPricesTest {
    private static final String SINGLES = "add 10*has 0+10*has 1+10*has 2;never if count>1;";

    public static void main(String[] args) {
        upToThePurse();
        theMostWorth();
        leastPriceAndBits();
        withoutAny();
        dear();
        dearFar();
        over();
        square();
        fitBeginsAsTold();
        fitGoesOn();
        fitUpAndDown();
        fitHeld();
        fitAllAtOnce();
        fitTheFirstOfSeveral();
        fitLastEight();
        fitBest();
        settle();
        mustLessons();
        mustPrices();
        mustTwenty();
        why();
        whyByHowMuch();
        ties();
        edge();
        Check.end("EdgesOfPricesTest");
    }

    private static void bought(String what, LessonPurses x, int who, int bits, int price, int worth) {
        Check.due(what + ": buys(" + who + ", 0)", x.buys(who, 0), bits);
        Check.due(what + ": buys(" + who + ", 1)", x.buys(who, 1), price);
        Check.due(what + ": buys(" + who + ", 2)", x.buys(who, 2), worth);
    }

    private static void upToThePurse() {
        Check.about(16, "What somebody BUYS: of the LAWFUL BUNDLES with all PRICES together up to the PURSE the one of the most WORTH,");
        LessonPurses x = Make.apart(1, 1);
        Make.person(x, 60, "add 10*has 0+11*has 1;");
        x.price(0, 30);
        x.price(1, 29);
        bought("below the purse", x, 0, 3, 59, 21);
        x.price(1, 30);
        bought("the purse", x, 0, 3, 60, 21);
        x.price(1, 31);
        bought("above the purse", x, 0, 2, 31, 11);
        x.price(1, 59);
        bought("one alone, below", x, 0, 2, 59, 11);
        x.price(1, 60);
        bought("one alone", x, 0, 2, 60, 11);
        x.price(1, 61);
        bought("one alone, above", x, 0, 1, 30, 10);
        x.purse(0, 0);
        bought("an empty purse", x, 0, 0, 0, 0);
        x.price(0, 1);
        bought("an empty purse, a price of 1", x, 0, 0, 0, 0);
        x.price(0, 0);
        bought("an empty purse, a price of 0", x, 0, 1, 0, 10);
        x.purse(0, 200);
        x.price(0, 200);
        x.price(1, 250);
        bought("the fullest purse", x, 0, 1, 200, 10);
        x.price(0, 201);
        bought("above the fullest purse", x, 0, 0, 0, 0);
        Check.about(16, "What somebody BUYS: the bits (what 0), the price (1), the WORTH (2).");
        x.price(0, 150);
        bought("bits, price, worth", x, 0, 1, 150, 10);
        Check.about(16, "-2,000,000: none such.");
        Snapshot.refused("buys(0, -1)", Make::busy, y -> y.buys(0, -1), -2000000);
        Snapshot.refused("buys(0, 3)", Make::busy, y -> y.buys(0, 3), -2000000);
        Snapshot.refused("buys(-1, 0)", Make::busy, y -> y.buys(-1, 0), -2000000);
        Snapshot.refused("buys(3, 0)", Make::busy, y -> y.buys(3, 0), -2000000);
    }

    private static void theMostWorth() {
        Check.about(16, "What somebody BUYS: of the LAWFUL BUNDLES with all PRICES together up to the PURSE the one of the most WORTH,");
        LessonPurses x = Make.apart(1, 1);
        Make.person(x, 60, "add 10*has 0+11*has 1;never if count>1;");
        x.price(0, 1);
        x.price(1, 50);
        bought("one more, though dearer", x, 0, 2, 50, 11);
        Make.wish(x, 0, "add 12*has 0+11*has 1;never if count>1;");
        bought("one less", x, 0, 1, 1, 12);
        Make.wish(x, 0, "add has 0;");
        x.price(0, 60);
        bought("one more than nothing", x, 0, 1, 60, 1);
        Make.wish(x, 0, "add 0-has 0-has 1;");
        x.price(0, 0);
        bought("less than nothing", x, 0, 0, 0, 0);
        Make.wish(x, 0, "add 0-9*has 0-8*has 1;never if count=0;");
        bought("the best of those below 0", x, 0, 2, 50, -8);
    }

    private static void leastPriceAndBits() {
        Check.about(16, "of these of the least price, of these the least bits");
        LessonPurses x = Make.apart(1, 1, 1);
        Make.person(x, 60, SINGLES);
        bought("all for 0: the least bits", x, 0, 1, 0, 10);
        x.price(0, 1);
        bought("the least price", x, 0, 2, 0, 10);
        x.price(1, 2);
        x.price(2, 1);
        bought("the least bits of the least price", x, 0, 1, 1, 10);
        x.price(2, 0);
        bought("the last", x, 0, 4, 0, 10);
        Make.wish(x, 0, "add 10 if has 2=1 and count=1;add 10 if count=2 and has 2=0;");
        x.price(0, 3);
        x.price(1, 4);
        x.price(2, 7);
        bought("two of them for as much: the least bits", x, 0, 3, 7, 10);
        x.price(2, 6);
        bought("one less", x, 0, 4, 6, 10);
        Make.wish(x, 0, "add 0*count;");
        bought("nothing is as good", x, 0, 0, 0, 0);
        x.price(0, 0);
        bought("nothing for 0, too", x, 0, 0, 0, 0);
    }

    private static void withoutAny() {
        Check.about(16, "(without any: none; price 0, WORTH 0).");
        LessonPurses x = Make.apart(1);
        Make.person(x, 60, "add 7+has 0;never if count=0;");
        x.price(0, 60);
        bought("it can just be paid", x, 0, 1, 60, 8);
        Check.due("ties", x.ties(0), 0);
        x.price(0, 61);
        bought("it can't be paid", x, 0, 0, 0, 0);
        Check.due("dear: more than 0", x.dear(0), 1);
        Check.due("why", x.why(0, 0, 0), 3);
        Make.wish(x, 0, "add 0-7+8*has 0;never if count=0;");
        Check.due("dear: one more than 0", x.dear(0), 1);
        Make.wish(x, 0, "add 0-7+7*has 0;never if count=0;");
        Check.due("dear: just 0", x.dear(0), -1);
        Check.due("why", x.why(0, 0, 0), 2);
        Make.wish(x, 0, "add 7;never;");
        x.price(0, 0);
        bought("nothing is lawful", x, 0, 0, 0, 0);
        LessonPurses y = new LessonPurses();
        Make.person(y, 0, "add 7;");
        bought("no lessons: nothing is lawful all the same", y, 0, 0, 0, 7);
    }

    private static void dear() {
        LessonPurses x = Make.apart(1, 1, 1);
        Make.person(x, 100, "add 10*has 0+10*has 1+11*has 2;never if count>1;");
        x.price(0, 99);
        x.price(1, 101);
        x.price(2, 104);
        Check.about(17, "DEAR: of the LAWFUL BUNDLES of more WORTH than what is bought the least price, less the PURSE (none without such).");
        Check.due("as much worth isn't more", x.dear(0), 4);
        Make.wish(x, 0, "add 10*has 0+11*has 1+12*has 2;never if count>1;");
        Check.due("the least price", x.dear(0), 1);
        x.price(1, 105);
        Check.due("the least price", x.dear(0), 4);
        x.price(2, 101);
        Check.due("one above the purse", x.dear(0), 1);
        Check.about(17, "DEAR.");
        x.price(2, 100);
        Check.due("it can be paid: none is of more worth", x.dear(0), -1);
        Make.wish(x, 0, "add 10*has 0+11*has 1+12*has 2;never if count>1 or has 2=1;");
        Check.due("lawful ones alone", x.dear(0), 5);
        Check.about(17, "NONE: none.");
        Make.wish(x, 0, "add 10*has 0+10*has 1;never if count>1;");
        Check.due("none is of more worth", x.dear(0), -1);
        x.wish(0, 0);
        Check.due("without wishes", x.dear(0), -1);
        Check.about(17, "-2: no such person.");
        Snapshot.refused("dear(-1)", Make::busy, y -> y.dear(-1), -2);
        Snapshot.refused("dear(3)", Make::busy, y -> y.dear(3), -2);
        Check.due("the last person", Make.busy().dear(2) != -2, true);
    }

    private static void dearFar() {
        Check.about(17, "DEAR: of the LAWFUL BUNDLES of more WORTH than what is bought the least price, less the PURSE (none without such).");
        LessonPurses x = Make.apart(1, 1, 1, 1, 1, 1, 1, 1, 1, 1);
        for (int i = 0; i < 10; i++) x.price(i, 250);
        Make.person(x, 0, "add count/6;");
        Check.due("no more than most", x.dear(0), -1);
        x.most(6);
        Check.due("six of the dearest, an empty purse", x.dear(0), 1500);
        x.price(9, 249);
        Check.due("the least of many", x.dear(0), 1499);
        x.purse(0, 200);
        Check.due("less the purse", x.dear(0), 1299);
    }

    private static void over() {
        Check.about(18, "OVER of a LESSON: how many BUY it, less PLACES; if that is below 0 and its PRICE is 0: 0.");
        LessonPurses x = Make.apart(2, 9);
        Check.due("nobody, price 0", x.over(0), 0);
        x.price(0, 1);
        x.price(1, 1);
        Check.due("nobody, price 1", x.over(0), -2);
        Check.due("nobody, nine places", x.over(1), -9);
        for (int buyers = 1; buyers <= 8; buyers++) {
            Make.person(x, 10, "add has 0;");
            x.price(0, 1);
            Check.due(buyers + " buyers, price 1", x.over(0), buyers - 2);
            x.price(0, 0);
            Check.due(buyers + " buyers, price 0", x.over(0), Math.max(0, buyers - 2));
        }
        x.places(0, 0);
        Check.due("eight buyers, no places", x.over(0), 8);
        x.places(0, 8);
        Check.due("eight buyers, eight places", x.over(0), 0);
        x.price(0, 10);
        x.places(0, 9);
        Check.due("one place too many", x.over(0), -1);
        x.price(0, 11);
        Check.due("too dear", x.over(0), -9);
        x.places(0, 0);
        Check.due("no places, no buyers, a price", x.over(0), 0);
        Check.about(18, "OVER.");
        Check.due("the other lesson", x.over(1), -9);
        Check.about(18, "-100: no such LESSON.");
        Snapshot.refused("over(-1)", Make::busy, y -> y.over(-1), -100);
        Snapshot.refused("over(6)", Make::busy, y -> y.over(6), -100);
        Check.due("the last lesson", Make.busy().over(5), -2);
    }

    private static void square() {
        Check.about(19, "SQUARE: all OVER by themselves, together.");
        Check.due("no lessons", new LessonPurses().square(), 0);
        LessonPurses x = Make.apart(1, 2, 3);
        for (int i = 0; i < 3; i++) Make.person(x, 100, "add 10*has 0+10*has 1-has 2;");
        Check.due("2 and 1, and none", x.square(), 5);
        x.price(2, 1);
        Check.due("below 0, too", x.square(), 5 + 9);
        x.price(2, 0);
        x.places(0, 3);
        Check.about(19, "SQUARE.");
        Check.due("1 alone", x.square(), 1);
        x.places(1, 3);
        Check.due("nothing", x.square(), 0);
        LessonPurses y = new LessonPurses();
        for (int i = 0; i < 10; i++) y.lesson(9, 4 * i, 4 * i + 4);
        for (int i = 0; i < 10; i++) y.price(i, 250);
        Check.due("ten times nine", y.square(), 810);
        LessonPurses z = Make.apart(0, 0, 0, 0, 0, 0);
        z.most(6);
        for (int i = 0; i < 8; i++) Make.person(z, 0, "add count;");
        Check.due("six times eight", z.square(), 384);
    }

    /** Lessons with a place each that nobody wants, at these prices: they come down. */
    private static LessonPurses unwanted(int... prices) {
        LessonPurses x = new LessonPurses();
        for (int i = 0; i < prices.length; i++) x.lesson(1, 2 * i, 2 * i + 2);
        for (int i = 0; i < prices.length; i++) x.price(i, prices[i]);
        return x;
    }

    /** A lesson of so many places that so many want, with purses alike, at a price. */
    private static LessonPurses wanted(int places, int many, int purse, int price) {
        LessonPurses x = Make.apart(places);
        for (int i = 0; i < many; i++) Make.person(x, purse, "add has 0;");
        x.price(0, price);
        return x;
    }

    private static void fitted(String what, LessonPurses x, int n, int square, int went, int... row) {
        Check.due(what + ": fit(" + n + ", 0)", x.fit(n, 0), square);
        Check.due(what + ": fit(" + n + ", 1)", x.fit(n, 1), went);
        for (int i = 0; i < row.length; i++) Check.due(what + ": fit(" + n + ", " + (10 + i) + ")", x.fit(n, 10 + i), row[i]);
    }

    private static void fitBeginsAsTold() {
        Check.about(20, "FIT by n: a row of PRICES begins as told. Up to n times it goes on:");
        fitted("nothing is over", wanted(1, 1, 100, 37), 1, 0, 0, 37);
        fitted("nothing is over", wanted(1, 1, 100, 37), 60, 0, 0, 37);
        fitted("no lessons", new LessonPurses(), 60, 0, 0);
        LessonPurses x = unwanted(250);
        x.step(1);
        for (int n : new int[] {1, 2, 59, 60}) fitted("down by 1", x, n, 1, n, 250);
        Check.due("prices are as told", x.count(7), 250);
        Check.about(20, "FIT by n (1 to 60): the BEST row's SQUARE (what 0), how many times it went on (1), 10 and a LESSON its PRICE in the BEST row.");
        x.price(0, 60);
        fitted("just before it", x, 59, 1, 59, 60);
        fitted("at the sixtieth", x, 60, 0, 60, 0);
        x.price(0, 61);
        fitted("just not", x, 60, 1, 60, 61);
        x.price(0, 1);
        fitted("at the first", x, 1, 0, 1, 0);
        fitted("at the first", x, 60, 0, 1, 0);
        LessonPurses y = unwanted(1, 2, 3, 4, 5, 6, 7, 8, 9, 10);
        y.step(10);
        fitted("ten lessons", y, 1, 0, 1, 0, 0, 0, 0, 0, 0, 0, 0, 0, 0);
        Check.about(20, "NONE: none such.");
        for (int n : new int[] {-1, 0, 61}) Snapshot.refused("fit(" + n + ", 0)", Make::busy, z -> z.fit(n, 0), -1);
        for (int what : new int[] {-1, 2, 9, 16, 20}) Snapshot.refused("fit(1, " + what + ")", Make::busy, z -> z.fit(1, what), -1);
        Check.due("the last lesson", Make.busy().fit(1, 15) >= 0, true);
        Check.due("the tenth lesson", Make.full().fit(1, 19) >= 0, true);
        Snapshot.refused("an eleventh", Make::full, z -> z.fit(1, 20), -1);
    }

    private static void fitGoesOn() {
        Check.about(20, "the one with the least SQUARE, of several the first; without one it ends.");
        LessonPurses x = wanted(1, 2, 100, 90);
        fitted("both buy", x, 1, 1, 1, 90);
        fitted("both buy", x, 2, 1, 2, 90);
        fitted("nobody buys", x, 3, 1, 3, 90);
        fitted("back is none of the rows: it ends", x, 4, 1, 3, 90);
        LessonPurses y = Make.apart(1, 1);
        Make.person(y, 50, "add 9*has 0+9*has 1;");
        Make.person(y, 50, "add 9*has 0+9*has 1;");
        y.price(0, 24);
        y.price(1, 24);
        Check.due("both are over by one", y.square(), 2);
        fitted("the first: each buys the other lesson alone", y, 1, 2, 1, 24, 24);
    }

    private static void fitUpAndDown() {
        Check.about(20, "in this order for each LESSON that is OVER (by numbers): its PRICE by STEP more if OVER is above 0, else less "
            + "(250 at most, 0 at least);");
        LessonPurses x = wanted(0, 1, 100, 95);
        fitted("over by one, step by step", x, 1, 1, 1, 95);
        fitted("dear enough", x, 2, 0, 2, 105);
        x.price(0, 96);
        fitted("dear enough at once", x, 1, 0, 1, 101);
        x = wanted(1, 1, 100, 101);
        fitted("a step less", x, 1, 0, 1, 96);
        x.price(0, 105);
        fitted("a step less", x, 1, 0, 1, 100);
        x.price(0, 106);
        fitted("two steps less", x, 1, 1, 1, 106);
        fitted("two steps less", x, 2, 0, 2, 96);
        LessonPurses y = Make.apart(1, 1, 1);
        Make.person(y, 100, "add 9*has 1;");
        y.price(0, 5);
        y.price(1, 40);
        y.price(2, 5);
        fitted("what isn't over stays", y, 1, 0, 1, 0, 40, 0);
    }

    private static void fitHeld() {
        Check.about(20, "in this order for each LESSON that is OVER (by numbers): its PRICE by STEP more if OVER is above 0, else less "
            + "(250 at most, 0 at least);");
        fitted("to 0", unwanted(5), 60, 0, 1, 0);
        fitted("to 0 from less than a step", unwanted(4), 60, 0, 1, 0);
        fitted("to 0 from 1", unwanted(1), 60, 0, 1, 0);
        fitted("to 1, then to 0", unwanted(6), 60, 0, 2, 0);
        fitted("to 1", unwanted(6), 1, 1, 1, 6);
        fitted("at 0", unwanted(0), 60, 0, 0, 0);
        LessonPurses x = wanted(0, 1, 200, 200);
        x.step(50);
        fitted("to 250", x, 60, 0, 1, 250);
        Check.about(20, "then all of them at once, each by OVER times STEP (held likewise):");
        for (int price : new int[] {99, 100, 101, 150}) {
            LessonPurses y = wanted(1, 4, 200, price);
            y.step(50);
            fitted("three steps of 50 from " + price, y, 1, 1, 1, Math.min(250, price + 150));
        }
        for (int price : new int[] {10, 11, 12, 14, 15}) {
            LessonPurses y = unwanted(price);
            y.places(0, 3);
            fitted("three steps of 5 from " + price, y, 1, 0, 1, 0);
        }
        LessonPurses z = unwanted(16);
        z.places(0, 3);
        fitted("three steps of 5 from 16", z, 1, 9, 1, 16);
    }

    private static void fitAllAtOnce() {
        Check.about(20, "then all of them at once, each by OVER times STEP (held likewise):");
        fitted("both at once", unwanted(5, 5), 1, 0, 1, 0, 0);
        fitted("all three at once", unwanted(5, 3, 4), 1, 0, 1, 0, 0, 0);
        fitted("one of both at once", unwanted(5, 6), 1, 1, 1, 0, 6);
        LessonPurses x = wanted(0, 3, 100, 86);
        fitted("three steps more", x, 1, 0, 1, 101);
        x.price(0, 85);
        fitted("three steps more aren't enough", x, 1, 9, 1, 85);
        LessonPurses y = Make.apart(0, 2);
        Make.person(y, 100, "add 9*has 0;");
        Make.person(y, 100, "add 9*has 0;");
        y.price(0, 91);
        y.price(1, 10);
        fitted("one more by two steps, one less by two", y, 1, 0, 1, 101, 0);
        y.price(0, 90);
        fitted("just not dear enough", y, 1, 4, 1, 100, 0);
    }

    private static void fitTheFirstOfSeveral() {
        Check.about(20, "the one with the least SQUARE, of several the first; without one it ends.");
        fitted("the first lesson comes down first", unwanted(10, 10), 2, 1, 2, 0, 10);
        fitted("then the other one", unwanted(10, 10), 4, 0, 4, 0, 0);
        fitted("the last lesson alone is least", unwanted(10, 5), 1, 1, 1, 10, 0);
        fitted("a lesson before all at once", unwanted(5, 10), 1, 1, 1, 0, 10);
        LessonPurses x = unwanted(10, 10, 10);
        x.places(1, 2);
        fitted("all at once, if it's less", x, 1, 2, 1, 5, 0, 5);
    }

    private static LessonPurses threeBuyers(int price, int other) {
        LessonPurses x = Make.apart(1, 2);
        Make.person(x, 39, "add 3*has 0+7*has 1;");
        Make.person(x, 23, "add 8*has 0+has 1;");
        Make.person(x, 21, "add 7*has 0+3*has 1;");
        x.price(0, price);
        x.price(1, other);
        return x;
    }

    /** Kept rows are told apart by what would happen with one more or less of them. */
    private static void fitLastEight() {
        Check.about(20, "of other rows, none of them among the last eight gone to (the first one, too; as many as there are):");
        LessonPurses x = Make.apart(1, 1, 1);
        Make.person(x, 37, "add 9*has 0+1*has 1+9*has 2;");
        Make.person(x, 22, "add 8*has 0+4*has 1+3*has 2;");
        Check.due("with seven it would end at 20, with nine at 16", x.fit(60, 1), 60);
        Check.due("with seven it would end at 14, with nine at 12, with none after all", threeBuyers(10, 5).fit(60, 1), 18);
        LessonPurses other = Make.apart(2, 1);
        Make.person(other, 22, "add 3*has 0+6*has 1;");
        Make.person(other, 35, "add 7*has 0+4*has 1;");
        Make.person(other, 24, "add 4*has 0+5*has 1;");
        other.price(1, 15);
        Check.due("with seven it would go on, with nine it would end at 12", other.fit(60, 1), 20);
        Check.due("till then it goes on", other.fit(19, 1), 19);
        Check.due("till then it goes on", threeBuyers(10, 5).fit(17, 1), 17);
        Check.due("as many as there are: eight steps", threeBuyers(10, 5).fit(8, 1), 8);
        LessonPurses y = wanted(1, 2, 100, 100);
        fitted("the first one, too: back isn't one of the rows", y, 60, 1, 1, 100);
        y.price(0, 105);
        fitted("the first one, too, from above", y, 60, 1, 1, 105);
    }

    private static void fitBest() {
        Check.about(20, "The BEST row is the first of all gone to (the first one, too) with the least SQUARE.");
        LessonPurses x = wanted(1, 2, 100, 95);
        fitted("all are alike: the first one", x, 60, 1, 2, 95);
        x.purse(1, 99);
        fitted("the last is the least", x, 60, 0, 1, 100);
        LessonPurses y = wanted(2, 5, 100, 97);
        fitted("3 and 2 by themselves: the second", y, 1, 4, 1, 102);
        fitted("107 is as good, but later", y, 60, 4, 3, 102);
        fitted("the first of those with 1", unwanted(5, 20), 4, 1, 4, 0, 20);
        fitted("the last one is less", unwanted(5, 20), 5, 0, 5, 0, 0);
    }

    private static void settle() {
        Check.about(21, "PRICES are those of the BEST row of FIT by n: true;");
        LessonPurses x = unwanted(10, 10, 7);
        Check.due("settle(1)", x.settle(1), true);
        Check.due("the first row is the best: nothing is new", x.count(7), 27);
        Check.due("settle(2)", x.settle(2), true);
        Check.due("square", x.square(), 2);
        Check.due("all together", x.count(7), 17);
        x.price(1, 0);
        Check.due("the second was 10", x.count(7), 7);
        x.price(2, 0);
        Check.due("the last was 7", x.count(7), 0);
        LessonPurses y = unwanted(60);
        y.step(1);
        Check.due("settle(59)", y.settle(59), true);
        Check.due("as it was", y.count(7), 60);
        Check.due("settle(60)", y.settle(60), true);
        Check.due("as in the best row", y.count(7), 0);
        Check.due("no lessons", new LessonPurses().settle(1), true);
        LessonPurses z = unwanted(1, 2, 3, 4, 5, 6, 7, 8, 9, 9);
        z.step(9);
        Check.due("settle(1)", z.settle(1), true);
        Check.due("all ten", z.count(7), 0);
        Check.about(21, "false, doing nothing: n isn't 1 to 60.");
        for (int n : new int[] {-1, 0, 61}) Snapshot.refused("settle(" + n + ")", Make::busy, w -> w.settle(n) ? 1 : 0, 0);
    }

    private static void mustLessons() {
        Check.about(22, "NONE: more than three LESSONS (or none), not as told.");
        Snapshot.refused("none", LessonPurses::new, x -> x.must(5), -1);
        Check.due("one", Make.apart(1).must(5), 0);
        Check.due("two", Make.apart(1, 1).must(5), 0);
        Check.due("three", Make.apart(1, 1, 1).must(5), 0);
        Snapshot.refused("four", () -> Make.apart(1, 1, 1, 1), x -> x.must(5), -1);
        for (int by : new int[] {-1, 0, 251}) Snapshot.refused("must(" + by + ")", () -> wanted(1, 2, 90, 80), x -> x.must(by), -1);
        Check.due("must(1)", wanted(1, 2, 90, 80).must(1), 1);
        Check.due("must(250)", wanted(0, 2, 90, 80).must(250), 0);
        Check.about(22, "MUST.");
        LessonPurses x = Make.apart(0, 0, 0);
        Make.person(x, 100, "add has 0+has 1+has 2;");
        Check.due("101 for each", x.must(101), 0);
        Check.due("50 for each: 100 can be paid, 150 not", x.must(50), 0);
        x.price(0, 77);
        Check.due("prices as told are nothing to it", x.must(101), 0);
        Check.due("and stay", x.count(7), 77);
    }

    private static void mustPrices() {
        Check.about(22, "MUST (up to three LESSONS) for all PRICES that are 0 or k times a told number (1 to 250), up to 250, at most 20 of them: "
            + "the least SQUARE of all such rows.");
        LessonPurses x = wanted(1, 1, 200, 0);
        Make.person(x, 124, "add has 0;");
        Check.due("125 and 250", x.must(125), 0);
        x.purse(1, 125);
        Check.due("125 is paid by both, 250 by nobody", x.must(125), 1);
        x.places(0, 0);
        Check.due("250 is one of them", x.must(125), 0);
        Check.due("250 is one of them", x.must(250), 0);
        Check.due("252 isn't", x.must(84), 1);
        x.places(0, 2);
        Check.due("0 is one of them", x.must(250), 0);
        LessonPurses y = wanted(0, 1, 200, 0);
        Check.due("200, 250", y.must(50), 0);
        Check.due("201", y.must(201), 0);
        Check.due("126 alone: it's paid", y.must(126), 1);
        Check.due("125 and 250", y.must(125), 0);
        Check.due("84 and 168, 252 is too much", y.must(84), 1);
        Check.due("83, 166 and 249", y.must(83), 0);
        LessonPurses z = Make.apart(1, 1, 1);
        for (int i = 0; i < 3; i++) Make.person(z, 120 + 10 * i, "add " + (9 - i) + "*has 0+9*has 1+" + (7 + i) + "*has 2;never if count>1;");
        Check.due("as told", z.square(), 1);
        Check.due("each lesson has a price of its own", z.must(125), 0);
    }

    private static void mustTwenty() {
        Check.about(22, "MUST (up to three LESSONS) for all PRICES that are 0 or k times a told number (1 to 250), up to 250, at most 20 of them: "
            + "the least SQUARE of all such rows.");
        for (int by : new int[] {1, 2, 9, 10}) {
            LessonPurses x = wanted(1, 1, 19 * by, 0);
            Make.person(x, 19 * by - 1, "add has 0;");
            Check.due(by + ": the nineteenth behind 0 parts them", x.must(by), 0);
            x.purse(0, 19 * by + 1);
            x.purse(1, 19 * by);
            Check.due(by + ": it would be the twentieth", x.must(by), 1);
        }
        LessonPurses y = Make.apart(0, 0, 0);
        Make.person(y, 18, "add has 0;");
        Make.person(y, 18, "add has 1;");
        Make.person(y, 18, "add has 2;");
        Check.due("19 for all three", y.must(1), 0);
        y.purse(1, 19);
        Check.due("19 is too little", y.must(1), 1);
        LessonPurses z = wanted(0, 1, 200, 0);
        Check.due("13: the twentieth is 247", z.must(13), 0);
        Check.due("11: the twentieth is 209", z.must(11), 0);
        Check.due("10: the twentieth is 190", z.must(10), 1);
    }

    private static void why() {
        LessonPurses x = Make.apart(1, 1, 1);
        Make.person(x, 100, SINGLES);
        x.price(1, 100);
        x.price(2, 101);
        Check.about(23, "WHY somebody doesn't get a LESSON: 0 it's bought;");
        Check.due("bought", x.why(0, 0, 0), 0);
        x.price(0, 101);
        Check.due("bought", x.why(0, 1, 0), 0);
        Check.about(23, "2 none that has it is of more WORTH than what is bought;");
        Check.due("as much worth", x.why(0, 0, 0), 2);
        Check.due("as much worth", x.why(0, 2, 0), 2);
        Make.wish(x, 0, "add 9*has 0+10*has 1+11*has 2;never if count>1;");
        Check.due("one less", x.why(0, 0, 0), 2);
        Check.about(23, "3 else, and by how much the least price of such is above the PURSE.");
        Check.due("one more", x.why(0, 2, 0), 3);
        Check.due("by how much", x.why(0, 2, 1), 1);
        Check.about(23, "1 no LAWFUL BUNDLE has it;");
        Make.wish(x, 0, "add 9*has 0+10*has 1+11*has 2;never if has 2=1;");
        Check.due("none", x.why(0, 2, 0), 1);
        Make.wish(x, 0, "add 9*has 0+10*has 1-has 2;never if has 2=1 and count<3;");
        Check.due("one with all others", x.why(0, 2, 0), 3);
        Make.wish(x, 0, "add 10*has 1-has 2;never if has 2=1 and count<3;");
        Check.due("one with all others, of less worth", x.why(0, 2, 0), 2);
        x.most(2);
        Check.due("not lawful then", x.why(0, 2, 0), 1);
        Check.about(23, "NONE: none such.");
        int[][] wrong = {{-1, 0, 0}, {3, 0, 0}, {0, -1, 0}, {0, 6, 0}, {0, 0, -1}, {0, 0, 2}};
        for (int[] w : wrong) Snapshot.refused("why" + java.util.Arrays.toString(w), Make::busy, y -> y.why(w[0], w[1], w[2]), -1);
        Check.due("the last ones", Make.busy().why(2, 5, 0) >= 0, true);
    }

    private static void whyByHowMuch() {
        Check.about(23, "WHY (what 0), by how much (1; NONE but for 3).");
        LessonPurses x = Make.apart(1, 1, 1);
        Make.person(x, 100, "add 10*has 0+10*has 1+10*has 2;");
        x.price(0, 50);
        x.price(1, 50);
        x.price(2, 60);
        Check.due("0", x.why(0, 0, 0), 0);
        Check.due("0: none", x.why(0, 0, 1), -1);
        Check.due("3", x.why(0, 2, 0), 3);
        Check.due("all three together", x.why(0, 2, 1), 60);
        Make.wish(x, 0, "add 10*has 0+10*has 1+21*has 2;");
        x.price(2, 101);
        Check.due("alone it's of more worth", x.why(0, 2, 1), 1);
        Make.wish(x, 0, "add 10*has 0+10*has 1+20*has 2;");
        Check.due("alone it's of as much worth", x.why(0, 2, 1), 51);
        Make.wish(x, 0, "add 10*has 0+10*has 1-has 2;");
        Check.due("2", x.why(0, 2, 0), 2);
        Check.due("2: none", x.why(0, 2, 1), -1);
        Make.wish(x, 0, "add 10*has 0+10*has 1;never if has 2=1;");
        Check.due("1", x.why(0, 2, 0), 1);
        Check.due("1: none", x.why(0, 2, 1), -1);
    }

    private static void ties() {
        LessonPurses x = Make.apart(1, 1, 1);
        Make.person(x, 100, SINGLES);
        Check.about(34, "TIES: how many others that they can pay are of just the WORTH of what is bought, LAWFUL.");
        Check.due("two others", x.ties(0), 2);
        x.price(2, 100);
        Check.due("just to be paid", x.ties(0), 2);
        x.price(2, 101);
        Check.due("just not to be paid", x.ties(0), 1);
        x.price(1, 99);
        Check.due("dearer, but to be paid", x.ties(0), 1);
        x.price(0, 100);
        Check.due("before it in number", x.ties(0), 1);
        x.price(1, 101);
        Check.due("itself alone", x.ties(0), 0);
        x.price(0, 101);
        Check.due("nothing is bought, and no lesson can be paid", x.ties(0), 0);
        Make.wish(x, 0, "add 10*has 0+11*has 1+9*has 2;never if count>1;");
        for (int i = 0; i < 3; i++) x.price(i, 0);
        Check.due("more or less isn't just as much", x.ties(0), 0);
        Make.wish(x, 0, "add 10*has 0+10*has 1+10*has 2;never if count>1 or has 1=1;");
        Check.due("lawful ones", x.ties(0), 1);
        x.wish(0, 0);
        Check.due("all others", x.ties(0), 7);
        Make.wish(x, 0, "add 10000*100;");
        Check.due("all others, of the most worth", x.ties(0), 7);
        for (int i = 0; i < 3; i++) x.price(i, 99 + i);
        Check.due("those to be paid, of the most worth", x.ties(0), 2);
        for (int i = 0; i < 3; i++) x.price(i, 0);
        x.wish(0, 0);
        Check.about(34, "TIES.");
        x.most(1);
        Check.due("three others", x.ties(0), 3);
        Check.about(34, "NONE: no such person, nothing LAWFUL can be paid.");
        Make.wish(x, 0, "never if count=0;");
        Check.due("all three", x.ties(0), 2);
        x.price(0, 100);
        x.price(1, 101);
        x.price(2, 101);
        Check.due("one can just be paid", x.ties(0), 0);
        x.price(0, 101);
        Check.due("none can", x.ties(0), -1);
        Snapshot.refused("ties(-1)", Make::busy, y -> y.ties(-1), -1);
        Snapshot.refused("ties(3)", Make::busy, y -> y.ties(3), -1);
        Check.due("the last person", Make.busy().ties(2) >= 0, true);
    }

    private static void edge() {
        Check.about(35, "EDGE of a LESSON for somebody: the least PRICE of it (the others as told) with which they don't BUY it.");
        LessonPurses x = Make.apart(1, 1);
        Make.person(x, 0, "add 10*has 0+10*has 1;never if count>1;");
        for (int purse : new int[] {0, 1, 199, 200}) {
            x.purse(0, purse);
            x.price(1, 250);
            Check.due("one above the purse", x.edge(0, 0), purse + 1);
        }
        x.price(1, 10);
        Check.due("as dear as the other one: the least bits", x.edge(0, 0), 11);
        x.price(0, 10);
        Check.due("as dear as the other one: the least bits", x.edge(0, 1), 10);
        x.price(0, 0);
        Check.due("the other one for 0", x.edge(0, 1), 0);
        Check.due("each for 0: the least bits", x.edge(0, 0), 11);
        Make.wish(x, 0, "add 10*has 0+11*has 1;");
        x.price(1, 150);
        Check.due("the others as told: both together", x.edge(0, 0), 51);
        Make.wish(x, 0, "add 10*has 0+10*has 1;");
        Check.due("in place of the other one", x.edge(0, 0), 151);
        Make.wish(x, 0, "add 0-has 0;");
        Check.due("never bought", x.edge(0, 0), 0);
        x.price(0, 33);
        Check.due("the price as told is nothing to it", x.edge(0, 0), 0);
        Check.due("and stays", x.count(7), 183);
        Check.about(35, "EDGE.");
        Make.wish(x, 0, "add 5*has 0;");
        Check.due("the fullest purse", x.edge(0, 0), 201);
        Check.about(35, "NONE: none up to 250, none such.");
        int[][] wrong = {{-1, 0}, {3, 0}, {0, -1}, {0, 6}};
        for (int[] w : wrong) Snapshot.refused("edge" + java.util.Arrays.toString(w), Make::busy, y -> y.edge(w[0], w[1]), -1);
        Check.due("the last ones", Make.busy().edge(2, 5) >= 0, true);
    }
}
