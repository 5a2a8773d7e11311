/** The edges of promises 28 to 33 and 36: envy, waste, shares, gains, ranks, and what happens if a lesson ends. */
public final class EdgesOfFairnessTest {
    private static final int HAND = 5;

    public static void main(String[] args) {
        envyOfOne();
        envyOfTwo();
        envyInWays();
        envies();
        wasteOrder();
        wasteWhatIsGiven();
        wasteLawful();
        wasteWorth();
        shareLimits();
        shareHeaps();
        shareNone();
        gain();
        gainInWays();
        gainLimits();
        rank();
        fewSets();
        fewPlaces();
        fewLawful();
        fewAfresh();
        fewInWays();
        Check.end("EdgesOfFairnessTest");
    }

    /** People with these wishes, lessons apart with nine places each. */
    private static LessonPurses people(int lessons, String... wishes) {
        int[] places = new int[lessons];
        java.util.Arrays.fill(places, 9);
        LessonPurses x = Make.apart(places);
        for (String w : wishes) Make.person(x, 100, w);
        return x;
    }

    private static void give(LessonPurses x, int... bundles) {
        for (int who = 0; who < bundles.length; who++) x.give(who, bundles[who]);
    }

    private static void envyOfOne() {
        Check.about(28, "ENVY of one for another in a WAY: 1, if the other's BUNDLE is LAWFUL for them and of more WORTH to them than their own;");
        LessonPurses x = people(2, "add 7*has 0+8*has 1;never if count>1;", "add 9*has 0+has 1;");
        give(x, 1, 2);
        Check.due("one more", x.envy(HAND, 0, 1), 1);
        Check.due("the other for them", x.envy(HAND, 1, 0), 1);
        give(x, 2, 1);
        Check.due("one less", x.envy(HAND, 0, 1), 0);
        Check.due("much less", x.envy(HAND, 1, 0), 0);
        give(x, 1, 1);
        Check.due("the same bundle", x.envy(HAND, 0, 1), 0);
        give(x, 1, 3);
        Check.due("not lawful for them", x.envy(HAND, 0, 1), 0);
        give(x, 3, 2);
        Check.due("their own isn't lawful, but of more worth", x.envy(HAND, 0, 1), 0);
        Make.wish(x, 0, "add 7*has 0+7*has 1;never if count>1;");
        give(x, 1, 2);
        Check.due("as much", x.envy(HAND, 0, 1), 0);
        Check.about(28, "ENVY of one for another (0, 1, 2).");
        Make.wish(x, 0, "add 7*has 0+8*has 1+has 0*has 1;");
        int[][] due = {{0, 0, 0}, {0, 1, 1}, {0, 3, 2}, {1, 3, 1}, {2, 3, 1}, {1, 2, 1}, {2, 1, 0}, {3, 3, 0}};
        for (int[] d : due) {
            give(x, d[0], d[1]);
            Check.due("envy of one with " + d[0] + " for one with " + d[1], x.envy(HAND, 0, 1), d[2]);
        }
    }

    private static void envyOfTwo() {
        Check.about(28, "2, if it's so and is LAWFUL and of more WORTH without any one of its LESSONS, too (one without LESSONS: 2).");
        LessonPurses x = people(4, "add 5*has 0+5*has 1+5*has 2+5*has 3;", "");
        give(x, 0, 1);
        Check.due("one lesson: without it it's nothing", x.envy(HAND, 0, 1), 1);
        give(x, 0, 3);
        Check.due("two", x.envy(HAND, 0, 1), 2);
        give(x, 8, 3);
        Check.due("two for one: without one as much", x.envy(HAND, 0, 1), 1);
        give(x, 8, 7);
        Check.due("three for one", x.envy(HAND, 0, 1), 2);
        Make.wish(x, 0, "add 9*has 0+5*has 1+5*has 2+5*has 3;");
        Check.due("whichever it is without", x.envy(HAND, 0, 1), 2);
        Make.wish(x, 0, "add 9*has 0+3*has 1+2*has 2+5*has 3;");
        Check.due("without the first as much", x.envy(HAND, 0, 1), 1);
        Make.wish(x, 0, "add 3*has 0+2*has 1+9*has 2+5*has 3;");
        Check.due("without the last as much", x.envy(HAND, 0, 1), 1);
        Make.wish(x, 0, "add 9*has 0+3*has 1+3*has 2+5*has 3;");
        Check.due("without the first one more", x.envy(HAND, 0, 1), 2);
        Make.wish(x, 0, "add 5*has 0+5*has 1+5*has 2+5*has 3;never if has 1=0 and count=2;");
        Check.due("without the second it isn't lawful", x.envy(HAND, 0, 1), 1);
        x.after(2, 1);
        Make.wish(x, 0, "add 5*has 0+5*has 1+5*has 2+5*has 3;");
        Check.due("without the second it isn't lawful", x.envy(HAND, 0, 1), 1);
        Make.wish(x, 0, "add 0-5*has 3;");
        give(x, 8, 0);
        Check.due("one without lessons", x.envy(HAND, 0, 1), 2);
        give(x, 0, 0);
        Check.due("one without lessons, as much", x.envy(HAND, 0, 1), 0);
        Make.wish(x, 0, "add 0-5*has 3;never if count=0;");
        give(x, 8, 0);
        Check.due("one without lessons, not lawful", x.envy(HAND, 0, 1), 0);
        LessonPurses y = people(10, "add 5*count;", "");
        y.most(6);
        give(y, 3, 512 + 256 + 128);
        Check.due("the last lessons", y.envy(HAND, 0, 1), 1);
        give(y, 1, 512 + 256 + 128);
        Check.due("the last lessons", y.envy(HAND, 0, 1), 2);
    }

    private static void envyInWays() {
        Check.about(28, "NONE: none such, the same.");
        int[][] wrong = {{-1, 0, 1}, {6, 0, 1}, {5, -1, 0}, {5, 3, 0}, {5, 0, -1}, {5, 0, 3}, {5, 0, 0}, {5, 2, 2}};
        for (int[] w : wrong) Snapshot.refused("envy" + java.util.Arrays.toString(w), Make::busy, x -> x.envy(w[0], w[1], w[2]), -1);
        LessonPurses x = Make.apart(1, 1);
        Make.person(x, 19, "add 8*has 0+5*has 1;");
        Make.person(x, 30, "add 9*has 0+5*has 1;");
        x.step(10);
        x.price(1, 20);
        int[][] due = {{1, 0}, {1, 0}, {0, 1}, {1, 0}, {0, 2}, {0, 0}};
        for (int way = 0; way < 6; way++) {
            Check.due("envy(" + way + ", 0, 1)", x.envy(way, 0, 1), due[way][0]);
            Check.due("envy(" + way + ", 1, 0)", x.envy(way, 1, 0), due[way][1]);
        }
    }

    private static void envies() {
        Check.about(29, "How many couples (one, other) in a WAY with ENVY of at least so much (1, 2).");
        String all = "add 5*has 0+5*has 1+5*has 2;";
        LessonPurses x = people(3, all, all, all);
        Check.due("nobody", x.envies(HAND, 1), 0);
        give(x, 0, 0, 1);
        Check.due("two for the last, 1", x.envies(HAND, 1), 2);
        Check.due("two for the last, 2", x.envies(HAND, 2), 0);
        give(x, 0, 1, 3);
        Check.due("0 for 1 and 2, 1 for 2", x.envies(HAND, 1), 3);
        Check.due("0 for 2 alone", x.envies(HAND, 2), 1);
        give(x, 7, 0, 0);
        Check.due("two for the first, 1", x.envies(HAND, 1), 2);
        Check.due("two for the first, 2", x.envies(HAND, 2), 2);
        LessonPurses y = people(1, "add has 0;");
        Check.due("one alone", y.envies(HAND, 1), 0);
        Check.due("nobody at all", Make.apart(1).envies(HAND, 1), 0);
        LessonPurses z = people(2, "add has 1;", "add has 1;", "add has 1;", "add has 1;", "add has 0;", "add has 0;", "add has 0;", "add has 0;");
        give(z, 1, 1, 1, 1, 2, 2, 2, 2);
        Check.due("four for four, and back", z.envies(HAND, 1), 32);
        Check.about(29, "NONE: none such.");
        int[][] wrong = {{-1, 1}, {6, 1}, {5, 0}, {5, 3}, {5, -1}};
        for (int[] w : wrong) Snapshot.refused("envies" + java.util.Arrays.toString(w), Make::busy, v -> v.envies(w[0], w[1]), -1);
    }

    private static void wasted(String what, LessonPurses x, int way, int... due) {
        for (int i = 0; i < 4; i++) Check.due(what + ": waste(" + way + ", " + i + ")", x.waste(way, i), due.length == 0 ? -1 : due[i]);
    }

    private static void wasteOrder() {
        Check.about(30, "WASTE of a WAY: the first of all couples of people (the lesser, then the greater number) and what they give "
            + "(a LESSON of theirs, or 10 for nothing; the lesser's, then the greater's; not both nothing)");
        String takes = "add 5*has 0+5*has 1+5*has 2+5*has 3;";
        LessonPurses x = people(4, takes, "", takes, "");
        give(x, 0, 0, 0, 8);
        wasted("the first who takes, and the last", x, HAND, 0, 3, 10, 3);
        give(x, 0, 1, 0, 8);
        wasted("the greater number is less", x, HAND, 0, 1, 10, 0);
        give(x, 8, 0, 0, 8);
        wasted("the lesser number is more", x, HAND, 2, 3, 10, 3);
        give(x, 0, 4 + 2, 0, 0);
        wasted("the least of the greater's", x, HAND, 0, 1, 10, 1);
        Make.wish(x, 0, "");
        Make.wish(x, 1, takes);
        give(x, 4 + 2, 0, 0, 0);
        wasted("the least of the lesser's", x, HAND, 0, 1, 1, 10);
        Check.about(30, "WASTE: the lesser person (what 0), the greater (1), what the lesser gives (2), the greater (3).");
        Make.wish(x, 0, "add 5*has 0+5*has 1+4*has 2;");
        Make.wish(x, 1, "add 4*has 0+4*has 1+5*has 2;");
        give(x, 4, 3, 0, 0);
        wasted("one for one: the greater's least", x, HAND, 0, 1, 2, 0);
        Make.wish(x, 0, "add 5*has 0+5*has 1+9*has 2+9*has 3;");
        give(x, 3, 12, 0, 0);
        Make.wish(x, 1, "add 5*has 0+5*has 1+5*has 2+5*has 3;");
        wasted("the lesser's first, then the greater's", x, HAND, 0, 1, 0, 2);
        Make.wish(x, 1, "add 4*has 0+5*has 1+5*has 2+5*has 3;");
        wasted("a step further in the lesser's", x, HAND, 0, 1, 1, 2);
        Make.wish(x, 1, "add 4*has 0+5*has 1+6*has 2+5*has 3;");
        wasted("a step further in the greater's", x, HAND, 0, 1, 1, 3);
        Make.wish(x, 1, "add 4*has 0+5*has 1+6*has 2;");
        wasted("a lesson comes before nothing", x, HAND, 0, 1, 0, 3);
    }

    private static void wasteWhatIsGiven() {
        Check.about(30, "with which, changed (what comes mustn't be there already), both are LAWFUL and of no less WORTH, one of more.");
        LessonPurses x = people(3, "add 5*has 0;", "");
        give(x, 1, 1);
        wasted("it's there already", x, HAND);
        give(x, 0, 1);
        wasted("it isn't there", x, HAND, 0, 1, 10, 0);
        Make.wish(x, 0, "add 0-5*has 0;");
        Make.wish(x, 1, "add 5*has 1;");
        give(x, 1, 1);
        wasted("it's there already, though it's a burden", x, HAND);
        give(x, 1, 0);
        wasted("it isn't there", x, HAND, 0, 1, 0, 10);
        Make.wish(x, 0, "add 5*has 1;");
        Make.wish(x, 1, "add 0-5*has 0;");
        give(x, 1, 1);
        wasted("it's there already, though it's a burden to the greater", x, HAND);
        give(x, 1 + 4, 1 + 2);
        wasted("it's there already: another one for another one", x, HAND, 0, 1, 2, 1);
        give(x, 2, 1);
        wasted("it isn't there", x, HAND, 0, 1, 10, 0);
        Make.wish(x, 0, "add 0-5*has 0;");
        Make.wish(x, 1, "add 5*has 1;");
        give(x, 1 + 2, 0);
        wasted("nothing for the burden comes first", x, HAND, 0, 1, 0, 10);
        give(x, 0, 0);
        wasted("nothing to give", x, HAND);
        Make.wish(x, 0, "add 5*has 0+6*has 1;");
        Make.wish(x, 1, "add 6*has 0+5*has 1+has 2;");
        give(x, 1 + 4, 2 + 4);
        wasted("what both have isn't given", x, HAND, 0, 1, 0, 1);
        LessonPurses y = people(10, "add 5*has 9;", "");
        give(y, 0, 512);
        wasted("the last lesson", y, HAND, 0, 1, 10, 9);
        Make.wish(y, 0, "");
        Make.wish(y, 1, "add 5*has 9;");
        give(y, 512, 0);
        wasted("the last lesson", y, HAND, 0, 1, 9, 10);
    }

    private static void wasteLawful() {
        Check.about(30, "with which, changed (what comes mustn't be there already), both are LAWFUL and of no less WORTH, one of more.");
        LessonPurses x = people(3, "add 5*has 0;never if count=1;", "");
        give(x, 0, 1);
        wasted("not lawful for the lesser", x, HAND);
        give(x, 2, 1);
        wasted("lawful with another one", x, HAND, 0, 1, 10, 0);
        Make.wish(x, 0, "add 5*has 0;");
        Make.wish(x, 1, "never if count=0;");
        give(x, 0, 1);
        wasted("not lawful for the greater", x, HAND);
        give(x, 0, 3);
        wasted("lawful for the greater", x, HAND, 0, 1, 10, 0);
        give(x, 2, 1);
        wasted("one for the other: lawful for both", x, HAND, 0, 1, 1, 0);
        x.most(1);
        give(x, 2, 1);
        wasted("no more than most", x, HAND, 0, 1, 1, 0);
        Make.wish(x, 1, "");
        Make.wish(x, 0, "add 5*has 0+3*has 1;");
        wasted("no more than most", x, HAND, 0, 1, 1, 0);
        Make.wish(x, 0, "add 5*has 0;never if count>1 or has 0=0;");
        give(x, 2, 1);
        wasted("from what isn't lawful", x, HAND, 0, 1, 1, 0);
    }

    private static void wasteWorth() {
        Check.about(30, "with which, changed (what comes mustn't be there already), both are LAWFUL and of no less WORTH, one of more.");
        LessonPurses x = people(2, "add 5*has 0+5*has 1;", "add 5*has 0+5*has 1;");
        give(x, 1, 2);
        wasted("neither of more", x, HAND);
        Make.wish(x, 0, "add 5*has 0+6*has 1;");
        wasted("the lesser of one more", x, HAND, 0, 1, 0, 1);
        Make.wish(x, 1, "add 5*has 0+6*has 1;");
        wasted("the greater of one less", x, HAND);
        Make.wish(x, 0, "add 5*has 0+5*has 1;");
        Make.wish(x, 1, "add 6*has 0+5*has 1;");
        wasted("the greater of one more", x, HAND, 0, 1, 0, 1);
        Make.wish(x, 0, "add 6*has 0+5*has 1;");
        wasted("the lesser of one less", x, HAND);
        Make.wish(x, 0, "add 4*has 0+5*has 1;");
        wasted("both of more", x, HAND, 0, 1, 0, 1);
        Make.wish(x, 0, "add 6*has 0+5*has 1;");
        Make.wish(x, 1, "add 95*has 0+5*has 1;");
        wasted("the lesser of one less, the greater of much more", x, HAND);
        Make.wish(x, 0, "add 5*has 0+5*has 1;never if has 1=1;");
        wasted("not lawful for the lesser, the greater of much more", x, HAND);
        Make.wish(x, 0, "add 5*has 0+95*has 1;");
        Make.wish(x, 1, "add 5*has 0+6*has 1;");
        wasted("the greater of one less, the lesser of much more", x, HAND);
        Make.wish(x, 1, "add 6*has 0+5*has 1;never if has 0=1;");
        wasted("not lawful for the greater, the lesser of much more", x, HAND);
        Make.wish(x, 1, "add 5*has 0+5*has 1;");
        wasted("the lesser of much more", x, HAND, 0, 1, 0, 1);
        Check.about(30, "NONE: none, none such.");
        Check.due("one alone", people(1, "add has 0;").waste(HAND, 0), -1);
        Check.due("nobody", Make.apart(1).waste(HAND, 0), -1);
        int[][] wrong = {{-1, 0}, {6, 0}, {5, -1}, {5, 4}};
        for (int[] w : wrong) Snapshot.refused("waste" + java.util.Arrays.toString(w), Make::busy, y -> y.waste(w[0], w[1]), -1);
        for (int[] w : wrong) Check.due("waste" + java.util.Arrays.toString(w), x.waste(w[0], w[1]), -1);
        Check.due("serial leaves none", x.waste(4, 0), -1);
        Check.due("it's there in the hand", x.waste(HAND, 3), 1);
    }

    private static void shareLimits() {
        Check.about(31, "SHARE of somebody (up to three people, six LESSONS): of all ways to put each LESSON on one of as many heaps as there are people "
            + "the one in which the least heap is most:");
        LessonPurses x = people(5, "add 5*count;", "", "");
        x.lesson(1, 20, 21);
        Check.due("three people, six lessons", x.share(0), 10);
        x.lesson(1, 21, 22);
        Check.due("seven lessons", x.share(0), -2000000);
        LessonPurses y = people(6, "add 5*count;", "");
        Check.due("two people", y.share(0), 15);
        Make.person(y, 0, "");
        Check.due("three people", y.share(0), 10);
        Make.person(y, 0, "");
        Check.due("four people", y.share(0), -2000000);
        Check.about(31, "-2,000,000: more people or LESSONS than told, no such person.");
        Snapshot.refused("four people", () -> people(2, "", "", "", ""), z -> z.share(0), -2000000);
        Snapshot.refused("seven lessons", () -> people(7, "", ""), z -> z.share(0), -2000000);
        Snapshot.refused("share(-1)", Make::busy, z -> z.share(-1), -2000000);
        Snapshot.refused("share(3)", Make::busy, z -> z.share(3), -2000000);
        Snapshot.refused("nobody", () -> Make.apart(1), z -> z.share(0), -2000000);
        Check.about(31, "SHARE.");
        LessonPurses alone = people(6, "add 5*count;");
        Check.due("one alone: all, but no more than most", alone.share(0), 20);
        alone.most(6);
        Check.due("one alone: all", alone.share(0), 30);
        Check.due("no lessons", people(0, "add 7;", "").share(0), 7);
    }

    private static void shareHeaps() {
        Check.about(31, "SHARE of somebody (up to three people, six LESSONS): of all ways to put each LESSON on one of as many heaps as there are people "
            + "the one in which the least heap is most:");
        LessonPurses x = people(4, "add 9*has 0+5*has 1+3*has 2+2*has 3;", "");
        Check.due("9 and 10: the least is 9", x.share(0), 9);
        Make.wish(x, 0, "add 10*has 0+5*has 1+3*has 2+2*has 3;");
        Check.due("10 and 10", x.share(0), 10);
        Make.wish(x, 0, "add 11*has 0+5*has 1+3*has 2+2*has 3;");
        Check.due("11 and 10", x.share(0), 10);
        Make.person(x, 0, "add 1*has 0+9*has 3;");
        Check.due("three heaps: 11, 5 and 5", x.share(0), 5);
        Check.due("two alone are of worth", x.share(2), 0);
        Make.wish(x, 2, "add 1*has 0+9*has 3+2*has 1;");
        Check.due("9, 2 and 1", x.share(2), 1);
        x.places(0, 0);
        Check.due("places are nothing to it", x.share(2), 1);
        Check.about(31, "a heap is the most WORTH of LAWFUL BUNDLES in it (none: -1,000,000).");
        Make.wish(x, 0, "add 9*has 0+8*has 1+7*has 2-has 3;");
        Check.due("not all of a heap need be taken", x.share(0), 7);
        x.most(1);
        Make.wish(x, 0, "add 4*has 0+4*has 1+4*has 2+4*has 3;");
        Check.due("one lawful of each heap", x.share(0), 4);
        x.most(4);
        x.after(1, 0);
        x.after(2, 0);
        Make.wish(x, 0, "add 9*has 0+8*has 1+7*has 2+6*has 3;");
        Check.due("what comes after it isn't lawful without it", x.share(0), 0);
        Make.wish(x, 0, "add 9*has 0+8*has 1+7*has 2+6*has 3;never if has 0=0 and count=0;");
        Check.due("one heap has nothing lawful in it", x.share(0), -1000000);
    }

    private static void shareNone() {
        Check.about(31, "a heap is the most WORTH of LAWFUL BUNDLES in it (none: -1,000,000).");
        LessonPurses x = people(2, "add 5*count;never if count=0;", "");
        Check.due("one for each heap", x.share(0), 5);
        Make.person(x, 0, "");
        Check.due("two for three heaps", x.share(0), -1000000);
        Make.wish(x, 0, "never;");
        Check.due("nothing is lawful", x.share(0), -1000000);
        Make.wish(x, 0, "add 0-10000*100+1;");
        Check.due("just above it", x.share(0), -999999);
        Make.wish(x, 0, "add 0-3*count;");
        Check.due("nothing is best", x.share(0), 0);
        Make.wish(x, 0, "add 0-3;");
        Check.due("below 0", x.share(0), -3);
        Make.wish(x, 0, "add 10000*100;");
        Check.due("the most there is", x.share(0), 1000000);
    }

    private static void gain() {
        Check.about(32, "GAIN in a WAY 1 to 4: WORTH (by their WISHES) of what somebody would have with FALSE WISHES in place of theirs, less that of what they have.");
        LessonPurses x = Make.apart(1, 1);
        Make.person(x, 100, "add 9*has 0+8*has 1;never if count>1;");
        Make.person(x, 100, "add 7*has 0+5*has 1;never if count>1;");
        Check.falsely(x, "add has 1;never if count>1;");
        Check.due("one less", x.gain(4, 0), -1);
        Check.due("the same", x.gain(4, 1), 0);
        Check.falsely(x, "add 3*has 0;");
        Check.due("the same", x.gain(4, 0), 0);
        Check.due("nothing is left", x.gain(4, 1), -5);
        Check.falsely(x, "add 3*has 0+3*has 1;");
        Check.due("by their own wishes, though it isn't lawful to them", x.gain(4, 0), 8);
        Check.due("what they have is as it was", x.has(4, 0), 1);
        Check.due("wishes are as they were", x.worth(0, 1), 9);
        Check.falsely(x, "never;");
        Check.due("nothing", x.gain(4, 0), -9);
        x.falsely(0);
        Check.due("false wishes without statements", x.gain(4, 0), -9);
        Check.falsely(x, "add 3*has 1 if purse=100;");
        Check.due("the purse is theirs", x.gain(4, 0), -1);
        x.purse(0, 99);
        Check.due("the purse is theirs", x.gain(4, 0), -9);
        LessonPurses far = people(1, "add 0-10000*100;add 10000*200*has 0;");
        Check.falsely(far, "");
        Check.due("from the most to the least", far.gain(4, 0), -2000000);
        Make.wish(far, 0, "add 10000*100;add 0-10000*200*has 0;");
        Check.falsely(far, "add has 0;");
        Check.due("from the most to the least", far.gain(4, 0), -2000000);
        Make.wish(far, 0, "add 10000*100*has 0-1;never if has 0=1;");
        Check.due("to what isn't lawful to them", far.gain(4, 0), 1000000);
    }

    private static void gainInWays() {
        Check.about(32, "GAIN in a WAY 1 to 4: WORTH (by their WISHES) of what somebody would have with FALSE WISHES in place of theirs, less that of what they have.");
        LessonPurses x = Make.apart(1, 1);
        Make.person(x, 19, "add 8*has 0+5*has 1;");
        Make.person(x, 30, "add 9*has 0+5*has 1;");
        x.step(10);
        x.price(1, 20);
        Check.falsely(x, "add 20*has 0+20*has 1;");
        Check.due("mended: nothing is new", x.gain(1, 0), 0);
        Check.due("turns: the same", x.gain(2, 0), 0);
        Check.due("bids: both", x.gain(3, 0), 8);
        Check.due("serial: the same", x.gain(4, 0), 0);
        Check.due("mended: the other one", x.gain(1, 1), 0);
        Check.due("turns: the other one", x.gain(2, 1), 0);
        Check.due("bids: the other one", x.gain(3, 1), 5);
        Check.falsely(x, "add 20*has 1;");
        Check.due("mended: that one alone", x.gain(1, 1), 5 - 9);
        Check.due("turns: that one alone", x.gain(2, 0), 5 - 8);
        LessonPurses y = Make.apart(1, 1);
        y.after(1, 0);
        y.person(50, 1);
        Make.wish(y, 0, "add 9*has 0+7*has 1;");
        Check.falsely(y, "add has 1;");
        Check.due("what is done is theirs", y.gain(4, 0), -9);
    }

    private static void gainLimits() {
        Check.about(32, "-3,000,000: none such, no FALSE WISHES are told.");
        LessonPurses x = people(1, "add 5*has 0;", "");
        Snapshot.refused("no false wishes", () -> people(1, "add 5*has 0;", ""), y -> y.gain(4, 0), -3000000);
        Check.falsely(x, "add");
        Check.due("a fault tells none", x.gain(4, 0), -3000000);
        x.falsely(0);
        Check.due("told", x.gain(4, 0), -5);
        int[][] wrong = {{-1, 0}, {0, 0}, {5, 0}, {6, 0}, {1, -1}, {1, 3}, {4, -1}, {4, 3}};
        for (int[] w : wrong) Snapshot.refused("gain" + java.util.Arrays.toString(w), Make::busy, y -> y.gain(w[0], w[1]), -3000000);
        Check.about(32, "GAIN.");
        for (int way = 1; way <= 4; way++) Check.due("gain(" + way + ", 1)", x.gain(way, 1), 0);
        for (int way = 1; way <= 4; way++) Check.due("gain(" + way + ", 0)", x.gain(way, 0), -5);
    }

    private static void rank() {
        Check.about(33, "RANK of somebody in a WAY: how many LAWFUL BUNDLES are of more WORTH than theirs.");
        LessonPurses x = people(3, "add 5*has 0+6*has 1+7*has 2;never if count>1;");
        int[] due = {3, 2, 1, 0, 0};
        for (int bundle = 0; bundle < 5; bundle++) {
            x.give(0, bundle);
            Check.due("rank with " + bundle, x.rank(HAND, 0), due[bundle]);
        }
        Make.wish(x, 0, "add 5*has 0+5*has 1+5*has 2;never if count>1;");
        x.give(0, 2);
        Check.due("as much isn't more", x.rank(HAND, 0), 0);
        Make.wish(x, 0, "add 4*has 1+5*has 0+5*has 2;never if count>1;");
        Check.due("one more", x.rank(HAND, 0), 2);
        Make.wish(x, 0, "add 4*has 1+5*has 0+5*has 2;never if count>1 or has 2=1;");
        Check.due("lawful ones", x.rank(HAND, 0), 1);
        Make.wish(x, 0, "never;");
        Check.due("none is lawful", x.rank(HAND, 0), 0);
        Make.wish(x, 0, "add count;");
        x.give(0, 0);
        Check.due("all others", x.rank(HAND, 0), 7);
        x.most(1);
        Check.due("those with one alone", x.rank(HAND, 0), 3);
        Check.about(33, "RANK.");
        x.price(0, 100);
        x.price(1, 101);
        x.price(2, 101);
        Make.wish(x, 0, "add 5*has 0+6*has 1+7*has 2;");
        Check.due("priced", x.rank(0, 0), 2);
        Check.due("serial", x.rank(4, 0), 0);
        Check.about(33, "NONE: none such.");
        int[][] wrong = {{-1, 0}, {6, 0}, {0, -1}, {0, 3}};
        for (int[] w : wrong) Snapshot.refused("rank" + java.util.Arrays.toString(w), Make::busy, y -> y.rank(w[0], w[1]), -1);
        LessonPurses y = people(10, "add count;");
        y.most(6);
        Check.due("all up to six of ten, but nothing", y.rank(HAND, 0), 847);
    }

    private static void ended(String what, LessonPurses x, int lesson, int set, int... then) {
        Check.due(what + ": the set", x.few(HAND, lesson, 0), set);
        for (int who = 0; who < then.length; who++) Check.due(what + ": " + who + " has", x.few(HAND, lesson, 10 + who), set < 0 ? -1 : then[who]);
    }

    private static void fewSets() {
        Check.about(36, "FEW, if a LESSON ends, from a WAY's BUNDLES: all lose it;");
        LessonPurses x = people(3, "add 5*has 0+4*has 1+3*has 2;", "add 5*has 0+4*has 1+3*has 2;");
        give(x, 3, 5);
        ended("all lose it, nobody need move", x, 0, 0, 2, 4);
        ended("only one has it", x, 1, 0, 1, 5);
        give(x, 0, 0);
        ended("nobody has it", x, 2, 0, 0, 0);
        Check.due("the hand is as told", x.has(HAND, 0), 0);
        Check.about(36, "FEW: the set (what 0), 10 and somebody what they have then.");
        give(x, 3, 5);
        Make.wish(x, 1, "add 5*has 0+4*has 1+3*has 2;never if has 0=0 and has 1=0;");
        ended("the second must move", x, 0, 2, 2, 6);
        Make.wish(x, 0, "add 5*has 0+4*has 1+3*has 2;never if has 0=0 and has 2=0;");
        ended("both must move", x, 0, 3, 6, 6);
        Make.wish(x, 1, "");
        ended("the first must move", x, 0, 1, 6, 4);
        Check.about(36, "NONE: no set, none such.");
        Make.wish(x, 0, "never if has 0=0;");
        ended("no set", x, 0, -1, -1, -1);
        ended("another lesson", x, 1, 0, 1, 5);
        int[][] wrong = {{-1, 0, 0}, {6, 0, 0}, {5, -1, 0}, {5, 6, 0}, {5, 0, -1}, {5, 0, 1}, {5, 0, 9}, {5, 0, 13}};
        for (int[] w : wrong) Snapshot.refused("few" + java.util.Arrays.toString(w), Make::busy, y -> y.few(w[0], w[1], w[2]), -1);
        for (int what : new int[] {-1, 1, 9, 12}) Check.due("few(5, 1, " + what + ")", x.few(HAND, 1, what), -1);
        Check.due("few(5, 3, 0)", x.few(HAND, 3, 0), -1);
        Check.due("few(5, 2, 0)", x.few(HAND, 2, 0), 0);
        Check.due("nobody: no one", Make.apart(1).few(HAND, 0, 0), 0);
    }

    private static void fewPlaces() {
        Check.about(36, "everybody's is LAWFUL and no LESSON has more than its PLACES: the one of the fewest, of those the least bits.");
        String wishes = "add 5*has 0+4*has 1;never if count>1;";
        LessonPurses x = people(3, wishes, wishes, wishes);
        give(x, 2, 2, 2);
        x.places(1, 3);
        ended("just its places", x, 2, 0, 2, 2, 2);
        x.places(1, 2);
        ended("one too many: the least bits", x, 2, 1, 1, 2, 2);
        x.places(1, 1);
        ended("two too many: the least bits of two", x, 2, 3, 1, 1, 2);
        x.places(0, 1);
        ended("two too many, one other place: the second has nothing", x, 2, 3, 1, 0, 2);
        x.places(1, 0);
        ended("no places: all three", x, 2, 7, 1, 0, 0);
        ended("it is that one that ends", x, 1, 0, 0, 0, 0);
        x.places(0, 9);
        x.places(1, 2);
        Make.wish(x, 0, "add has 1;never if has 1=0;");
        ended("the first finds no place, so the second goes", x, 2, 2, 2, 1, 2);
        Make.wish(x, 1, "add has 1;never if has 1=0;");
        ended("so the last goes", x, 2, 4, 2, 2, 1);
        Make.wish(x, 2, "add has 1;never if has 1=0;");
        ended("nobody can go", x, 2, -1, -1, -1, -1);
        x.places(1, 3);
        ended("nobody need go", x, 2, 0, 2, 2, 2);
        firstAndLastPlaces();
    }

    private static void firstAndLastPlaces() {
        String wishes = "add 5*has 0+4*has 1;never if count>1;";
        LessonPurses x = people(3, wishes, wishes, wishes);
        give(x, 1, 1, 2);
        x.places(0, 2);
        ended("the first lesson: just its places", x, 2, 0, 1, 1, 2);
        x.places(0, 1);
        ended("the first lesson: one too many", x, 2, 1, 2, 1, 2);
        Make.wish(x, 0, "add has 0;never if has 0=0;");
        ended("the first lesson: the second goes", x, 2, 2, 1, 2, 2);
        give(x, 4, 2, 4);
        Make.wish(x, 0, "");
        x.places(2, 2);
        ended("the last lesson: just its places", x, 0, 0, 4, 2, 4);
        x.places(2, 1);
        ended("the last lesson: one too many", x, 0, 1, 0, 2, 4);
        LessonPurses y = people(4, "add has 1;", "add has 2;", "add has 1+has 2+has 3;");
        y.places(1, 1);
        y.places(2, 1);
        give(y, 2, 4, 2 + 4);
        ended("one in place of two of lesser numbers", y, 0, 4, 2, 4, 8);
        give(y, 2, 4, 2);
        ended("the least bits of one", y, 0, 1, 0, 4, 2);
        give(y, 2 + 4, 4, 2);
        ended("one who has both", y, 0, 1, 0, 4, 2);
        give(y, 4, 2 + 4, 2);
        ended("one who has both", y, 0, 2, 4, 0, 2);
    }

    private static void fewLawful() {
        Check.about(36, "everybody's is LAWFUL and no LESSON has more than its PLACES: the one of the fewest, of those the least bits.");
        LessonPurses x = people(4, "add has 1+has 2;", "add has 1+has 2;", "add has 1+has 2;");
        x.after(3, 0);
        give(x, 1 + 8, 2, 1 + 8);
        ended("what comes after it isn't lawful without it", x, 0, 5, 6, 2, 6);
        give(x, 1, 2 + 8, 1);
        ended("somebody who hasn't got it must be lawful, too", x, 0, 2, 0, 6, 0);
        ended("another one ends: the same", x, 2, 2, 1, 2, 1);
        give(x, 1, 2, 1);
        Make.wish(x, 0, "add has 1;never if count=0;");
        ended("nothing isn't lawful", x, 0, 1, 2, 2, 0);
        x.places(1, 1);
        ended("no place in it: another lesson", x, 0, 1, 4, 2, 0);
        Make.wish(x, 0, "add has 1;never if has 1=0;");
        ended("no place in it: the other one gives back", x, 0, 3, 2, 4, 0);
        Make.wish(x, 1, "add has 1;never if has 1=0;");
        ended("the other one must have it", x, 0, -1, -1, -1, -1);
    }

    private static void fewAfresh() {
        Check.about(36, "then of all sets of people with which, if those one after another (by numbers) have theirs taken away and each takes afresh "
            + "as in SERIAL from what is left (all of the set give back first; nobody that LESSON),");
        LessonPurses x = people(3, "add 9*has 0+5*has 1+5*has 2;never if count=0;", "add 9*has 0+5*has 1+5*has 2;never if count=0;");
        x.most(1);
        for (int i = 0; i < 3; i++) x.places(i, 1);
        give(x, 1, 2);
        ended("the least bits of what is left", x, 0, 1, 4, 2);
        x.places(2, 0);
        ended("nothing is left for it", x, 0, -1, -1, -1);
        x.places(1, 2);
        ended("a place is left", x, 0, 1, 2, 2);
        x.places(0, 9);
        ended("nobody takes that lesson", x, 0, 1, 2, 2);
        x.places(1, 1);
        x.places(2, 1);
        Make.wish(x, 0, "add 9*has 0+5*has 1+6*has 2;never if count=0 or has 2=0;");
        give(x, 1, 4);
        ended("both give back first: the first takes the second's", x, 0, 3, 4, 2);
        Make.wish(x, 1, "add 9*has 0+5*has 1+6*has 2;never if count=0 or has 0=0 and has 2=0;");
        ended("the second has none then", x, 0, -1, -1, -1);
        LessonPurses y = people(1, "never;", "", "", "", "", "", "", "");
        ended("never: no set", y, 0, -1, -1);
        Make.wish(y, 0, "");
        Make.wish(y, 7, "add 0-5;never if count>0;");
        y.give(7, 1);
        ended("eight people: the last one loses it", y, 0, 0, 0, 0, 0, 0, 0, 0, 0, 0);
        y.lesson(1, 20, 21);
        y.give(7, 2);
        ended("eight people: the last one moves", y, 0, 128, 0, 0, 0, 0, 0, 0, 0, 0);
        for (int i = 0; i < 8; i++) Make.wish(y, i, "never if count>0;");
        for (int i = 0; i < 8; i++) y.give(i, 2);
        ended("eight people: all move", y, 0, 255, 0, 0, 0, 0, 0, 0, 0, 0);
    }

    private static void fewInWays() {
        Check.about(36, "FEW, if a LESSON ends, from a WAY's BUNDLES: all lose it;");
        LessonPurses x = Make.apart(1, 1);
        Make.person(x, 19, "add 8*has 0+5*has 1;never if count=0;");
        Make.person(x, 30, "add 9*has 0+5*has 1;");
        x.step(10);
        x.price(1, 20);
        int[][] due = {{3, 2, 0}, {0, 2, 0}, {3, 2, 0}, {0, 2, 0}, {0, 2, 0}, {1, 2, 0}};
        for (int way = 0; way < 6; way++) {
            for (int what = 0; what < 3; what++) Check.due("way " + way, x.few(way, 0, what == 0 ? 0 : 9 + what), due[way][what]);
        }
    }
}
