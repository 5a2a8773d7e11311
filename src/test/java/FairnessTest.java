/** Promises 28 to 33 and 36: envy, waste, shares, gains, ranks, and what happens if a lesson ends. */
public final class FairnessTest {
    public static void main(String[] args) {
        envy();
        envies();
        waste();
        wasteOrder();
        share();
        gain();
        gainInEachWay();
        rank();
        few();
        fewOver();
        fewOneAfterAnother();
        Check.end("FairnessTest");
    }

    private static void envy() {
        LessonPurses x = WaysTest.apart(2, 2, 2);
        WaysTest.person(x, 0, "add 10*has 0+10*has 1+10*has 2;");
        WaysTest.person(x, 0, "add 10*has 0+10*has 1+10*has 2;never if has 0=1;");
        x.give(1, 1);
        Check.due("one lesson: without it nothing", x.envy(5, 0, 1), 1);
        x.give(1, 3);
        Check.due("without any one of two still more", x.envy(5, 0, 1), 2);
        x.give(0, 4);
        Check.due("without one it's just as much", x.envy(5, 0, 1), 1);
        x.give(0, 6);
        Check.due("just as much", x.envy(5, 0, 1), 0);
        Check.due("the other way round", x.envy(5, 1, 0), 0);
        x.give(1, 1);
        Check.due("of more worth though not lawful itself", x.envy(5, 1, 0), 1);
        x.give(0, 7);
        Check.due("not lawful for them", x.envy(5, 1, 0), 0);
        Check.wish(x, 1, "add 10*has 0+10*has 1+10*has 2;never if count=2;");
        x.give(1, 0);
        Check.due("not lawful without one", x.envy(5, 1, 0), 1);
        Check.wish(x, 1, "add 0-has 1;");
        x.give(1, 2);
        x.give(0, 0);
        Check.due("of one without lessons", x.envy(5, 1, 0), 2);
        Check.due("the same", x.envy(5, 1, 1), -1);
        for (int[] w : new int[][] {{-1, 0, 1}, {6, 0, 1}, {5, 2, 0}, {5, 0, 2}, {5, -1, 0}, {5, 0, -1}}) {
            Check.due("envy " + w[0] + " " + w[1] + " " + w[2], x.envy(w[0], w[1], w[2]), -1);
        }
    }

    private static void envies() {
        LessonPurses x = WaysTest.apart(1, 1, 1);
        String same = "add 10*has 0+10*has 1+10*has 2;";
        for (int i = 0; i < 3; i++) WaysTest.person(x, 0, same);
        Check.due("all for the first", x.envies(4, 1), 2);
        Check.due("more than one", x.envies(4, 2), 2);
        Check.due("nobody", x.envies(2, 1), 0);
        x.give(0, 1);
        x.give(1, 6);
        Check.due("both for the second, one for the first", x.envies(5, 1), 3);
        Check.due("more than one", x.envies(5, 2), 1);
        for (int much : new int[] {0, 3, -1}) Check.due("envies(5, " + much + ")", x.envies(5, much), -1);
        Check.due("no such way", x.envies(6, 1), -1);
        Check.due("no such way", x.envies(-1, 1), -1);
    }

    private static void wasted(String what, LessonPurses x, int way, int... due) {
        for (int i = 0; i < 4; i++) Check.due(what + ": waste(" + way + ", " + i + ")", x.waste(way, i), due.length == 0 ? -1 : due[i]);
    }

    private static void waste() {
        LessonPurses x = WaysTest.apart(2, 2, 2);
        WaysTest.person(x, 0, "add 10*has 0+20*has 1;");
        WaysTest.person(x, 0, "add 20*has 0+10*has 1;");
        x.give(0, 1);
        x.give(1, 2);
        wasted("both gain", x, 5, 0, 1, 0, 1);
        x.give(0, 2);
        x.give(1, 1);
        wasted("none", x, 5);
        x.give(1, 5);
        Check.wish(x, 0, "add 10*has 0+20*has 1+has 2;");
        wasted("for nothing", x, 5, 0, 1, 10, 2);
        x.give(0, 6);
        wasted("it's there already", x, 5);
        Check.wish(x, 1, "add 20*has 0+10*has 1-5*has 2;");
        wasted("it's there already, though it's a burden", x, 5);
        Check.wish(x, 0, "add 20*has 1-5*has 2;");
        Check.wish(x, 1, "add 20*has 0+has 2;");
        wasted("it's there already, though it's a burden", x, 5);
        Check.wish(x, 0, "add 10*has 0+20*has 1+has 2;");
        x.give(0, 2);
        Check.wish(x, 1, "add 20*has 0+10*has 1+has 2;");
        wasted("the other one loses", x, 5);
        Check.wish(x, 1, "add 20*has 0+10*has 1;never if count=1;");
        wasted("not lawful then", x, 5);
        Check.wish(x, 1, "add 20*has 0;");
        Check.wish(x, 0, "add 10*has 0+20*has 1+has 2;never if has 2=1;");
        wasted("not lawful then", x, 5);
        x.give(0, 4);
        x.give(1, 2);
        wasted("from what isn't lawful", x, 5, 0, 1, 2, 1);
        for (int what : new int[] {-1, 4}) Check.due("waste(5, " + what + ")", x.waste(5, what), -1);
        Check.due("no such way", x.waste(6, 0), -1);
        Check.due("no such way", x.waste(-1, 0), -1);
    }

    private static void wasteOrder() {
        LessonPurses x = WaysTest.apart(3, 3, 3, 3);
        String takes = "add 5*has 0+5*has 1+5*has 2+5*has 3;";
        WaysTest.person(x, 0, takes);
        WaysTest.person(x, 0, "add 0;");
        WaysTest.person(x, 0, "add 0;");
        x.give(0, 8);
        x.give(2, 1);
        wasted("the greater person", x, 5, 0, 2, 10, 0);
        x.give(1, 6);
        wasted("the lesser one first, and its lesser lesson", x, 5, 0, 1, 10, 1);
        Check.wish(x, 0, "add 5*has 0+9*has 1+9*has 2+5*has 3;");
        wasted("a lesson comes before nothing", x, 5, 0, 1, 3, 1);
        x.give(0, 9);
        wasted("the lesser's lesser lesson first", x, 5, 0, 1, 0, 1);
        Check.wish(x, 0, "add 0;");
        Check.wish(x, 1, takes);
        wasted("the lesser gives for nothing", x, 5, 0, 1, 0, 10);
        x.give(0, 0);
        wasted("behind the first person", x, 5, 1, 2, 10, 0);
    }

    private static void share() {
        LessonPurses x = WaysTest.apart(0, 1, 1, 1);
        WaysTest.person(x, 0, "add 50*has 0+30*has 1+15*has 2+10*has 3;");
        Check.due("alone: all", x.share(0), 105);
        WaysTest.person(x, 0, "add 3-count;");
        Check.due("two heaps", x.share(0), 50);
        Check.due("nothing is lawful, too", x.share(1), 3);
        WaysTest.person(x, 0, "add 10*count;never if count=0;");
        Check.due("three heaps", x.share(0), 25);
        Check.due("none stays empty", x.share(2), 10);
        Check.wish(x, 2, "add 10*count;never if count<2;");
        Check.due("not enough for three", x.share(2), -1000000);
        x.most(1);
        Check.due("one of each heap", x.share(0), 15);
        x.most(4);
        x.lesson(1, 0, 8);
        x.lesson(1, 20, 21);
        Check.due("six lessons", x.share(0), 25);
        Check.due("no such person", x.share(3), -2000000);
        Check.due("no such person", x.share(-1), -2000000);
        x.lesson(1, 22, 23);
        Check.due("seven lessons", x.share(0), -2000000);
        LessonPurses y = WaysTest.apart(1);
        for (int i = 0; i < 4; i++) y.person(1, 0);
        Check.due("four people", y.share(0), -2000000);
        LessonPurses z = new LessonPurses();
        z.person(1, 0);
        Check.due("no lessons", z.share(0), 0);
        Check.wish(z, 0, "never;");
        Check.due("nothing lawful", z.share(0), -1000000);
    }

    private static void gain() {
        LessonPurses x = WaysTest.apart(1, 1, 1);
        WaysTest.person(x, 100, "add 10*has 0+9*has 1;");
        WaysTest.person(x, 100, "add 10*has 1+8*has 2;");
        Check.due("no false wishes", x.gain(2, 0), -3000000);
        Check.due("falsely", Check.falsely(x, "add 5*has 0+50*has 1;"), 1);
        Check.due("the other's first", x.gain(2, 0), 9);
        Check.due("they are as before", x.has(2, 0), 1);
        Check.due("what would be theirs is nothing to them", x.gain(2, 1), -8);
        Check.due("falsely", Check.falsely(x, "never if count>0;"), 1);
        Check.due("all is lost", x.gain(4, 0), -19);
        Check.due("falsely", Check.falsely(x, "add has 0 if purse=100;"), 1);
        x.purse(0, 99);
        Check.due("the purse is theirs", x.gain(4, 0), -19);
        x.purse(0, 100);
        Check.due("the purse is theirs", x.gain(4, 0), -9);
        for (int way : new int[] {0, 5, -1, 6}) Check.due("gain(" + way + ", 0)", x.gain(way, 0), -3000000);
        Check.due("no such person", x.gain(2, 2), -3000000);
        Check.due("no such person", x.gain(2, -1), -3000000);
    }

    private static void gainInEachWay() {
        LessonPurses x = WaysTest.apart(1, 1);
        WaysTest.person(x, 40, "add 5*has 0+5*has 1;");
        WaysTest.person(x, 60, "add 9*has 0+has 1;");
        Check.falsely(x, "add 50*has 0;");
        Check.due("mended: the second adds what is left", x.has(1, 0), 2);
        Check.due("mended: too dear, and the other one wasn't wished for", x.gain(1, 0), -5);
        Check.due("turns", x.gain(2, 0), 0);
        Check.due("bids: the first before the other", x.gain(3, 0), 0);
        Check.due("serial: one is not taken", x.gain(4, 0), -5);
        Check.falsely(x, "add 50*has 0+40*has 1;");
        Check.due("bids: both", x.gain(3, 0), 5);
        LessonPurses y = WaysTest.apart(1, 1);
        y.after(1, 0);
        y.person(0, 1);
        Check.wish(y, 0, "add 5*has 0+5*has 1;");
        Check.falsely(y, "add 50*has 1;");
        Check.due("what is done is theirs", y.gain(4, 0), -5);
    }

    private static void rank() {
        LessonPurses x = WaysTest.apart(1, 1, 1);
        WaysTest.person(x, 0, "add 10*has 0+10*has 1+5*has 2;");
        Check.due("nothing", x.rank(5, 0), 7);
        x.give(0, 1);
        Check.due("of more worth", x.rank(5, 0), 4);
        x.give(0, 7);
        Check.due("the best", x.rank(5, 0), 0);
        Check.due("the best", x.rank(4, 0), 0);
        x.most(2);
        Check.due("though it isn't lawful", x.rank(5, 0), 0);
        x.give(0, 5);
        Check.due("lawful ones alone", x.rank(5, 0), 1);
        Check.wish(x, 0, "add 10*has 0+10*has 1+5*has 2;never if has 1=1;");
        Check.due("lawful ones alone", x.rank(5, 0), 0);
        for (int[] w : new int[][] {{6, 0}, {-1, 0}, {0, 1}, {0, -1}}) Check.due("rank " + w[0] + " " + w[1], x.rank(w[0], w[1]), -1);
    }

    private static void few() {
        LessonPurses x = WaysTest.apart(1, 1, 1);
        x.after(1, 0);
        WaysTest.person(x, 0, "add 10*has 0+10*has 1+5*has 2;");
        WaysTest.person(x, 0, "add 10*has 0+10*has 1+5*has 2;");
        x.give(0, 3);
        Check.due("the second hangs on it", x.few(5, 0, 0), 1);
        Check.due("takes afresh", x.few(5, 0, 10), 4);
        Check.due("keeps nothing", x.few(5, 0, 11), 0);
        Check.due("another lesson ends", x.few(5, 1, 0), 0);
        Check.due("is lost", x.few(5, 1, 10), 1);
        x.give(1, 4);
        Check.due("no place for it", x.few(5, 0, 0), 1);
        Check.due("nothing is lawful", x.few(5, 0, 10), 0);
        Check.wish(x, 0, "add 10*has 0+10*has 1+5*has 2;never if count=0;");
        Check.due("one by numbers before the other: both", x.few(5, 0, 0), 3);
        Check.due("takes the other's", x.few(5, 0, 10), 4);
        Check.due("has nothing then", x.few(5, 0, 11), 0);
        Check.wish(x, 1, "add has 2;never if count=0;");
        Check.due("not to be done", x.few(5, 0, 0), -1);
        Check.due("not to be done", x.few(5, 0, 10), -1);
        for (int[] w : new int[][] {{6, 0, 0}, {-1, 0, 0}, {5, 3, 0}, {5, -1, 0}, {5, 1, 1}, {5, 1, -1}, {5, 1, 9}, {5, 1, 12}}) {
            Check.due("few " + w[0] + " " + w[1] + " " + w[2], x.few(w[0], w[1], w[2]), -1);
        }
    }

    private static void fewOver() {
        LessonPurses x = WaysTest.apart(1, 1, 1);
        WaysTest.person(x, 0, "add 10*has 0+9*has 1+8*has 2;never if count>1;");
        WaysTest.person(x, 0, "add 10*has 0+9*has 1+8*has 2;never if count>1;");
        WaysTest.person(x, 0, "add 10*has 0+9*has 1+8*has 2;never if count>1;");
        x.give(0, 2);
        x.give(1, 2);
        x.give(2, 4);
        Check.due("more than its places: the least bits of the fewest", x.few(5, 2, 0), 1);
        Check.due("what they have", x.few(5, 2, 10), 1);
        Check.due("what they have", x.few(5, 2, 11), 2);
        Check.due("what they have", x.few(5, 2, 12), 0);
        Check.due("the lesson itself ends", x.few(5, 1, 0), 0);
        Check.wish(x, 0, "add 10*has 0;never if has 1=0;");
        Check.due("the other one must", x.few(5, 2, 0), 2);
        x.places(1, 0);
        Check.due("no set", x.few(5, 2, 0), -1);
    }

    private static void fewOneAfterAnother() {
        LessonPurses x = WaysTest.apart(1, 1, 2, 2);
        x.most(1);
        WaysTest.person(x, 0, "add 5*has 0+9*has 1;never if has 3=1 or count=0;");
        WaysTest.person(x, 0, "add 5*has 0+9*has 1;never if has 3=1 or count=0;");
        x.give(0, 4);
        x.give(1, 4);
        Check.due("all who had it", x.few(5, 2, 0), 3);
        Check.due("the first the better", x.few(5, 2, 10), 2);
        Check.due("the second the other", x.few(5, 2, 11), 1);
        Check.due("priced: both want the same", x.few(0, 0, 0), 1);
        Check.due("the first takes the other", x.few(0, 0, 10), 4);
        Check.due("the second stays", x.few(0, 0, 11), 2);
    }
}
