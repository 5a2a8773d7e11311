/** The edges of promises 12 and 13: what bars a bundle, and its worth. */
public final class EdgesOfBundlesTest {
    public static void main(String[] args) {
        bits();
        notTold();
        moreThanMost();
        clashes();
        afters();
        never();
        theFirstThatHolds();
        hasAndCount();
        hoursOfBundles();
        askedOneAfterAnother();
        notToldHaveNoHours();
        purses();
        heldResults();
        heldBelow();
        divisions();
        worths();
        heldWorths();
        Check.end("EdgesOfBundlesTest");
    }

    private static void bits() {
        Check.about(12, "A BUNDLE is a set of LESSONS, as bits (0 to 1,023).");
        LessonPurses x = new LessonPurses();
        for (int i = 0; i < 10; i++) x.lesson(1, i, i + 1);
        Make.person(x, 10, "add count;");
        Check.due("bars(0, 0)", x.bars(0, 0), 0);
        Check.due("bars(0, 1)", x.bars(0, 1), 0);
        Check.due("bars(0, 512)", x.bars(0, 512), 0);
        Check.due("bars(0, 1022)", x.bars(0, 1022), 2);
        Check.due("bars(0, 1023)", x.bars(0, 1023), 2);
        Check.due("worth(0, 0)", x.worth(0, 0), 0);
        Check.due("worth(0, 512)", x.worth(0, 512), 1);
        Check.due("worth(0, 1022)", x.worth(0, 1022), 9);
        Check.due("worth(0, 1023)", x.worth(0, 1023), 10);
        Check.about(12, "What BARS a BUNDLE (0: nothing).");
        Check.due("nothing", x.bars(0, 15), 0);
        Check.about(12, "NONE: no such person, bits.");
        Snapshot.refused("bars(0, -1)", Make::busy, y -> y.bars(0, -1), -1);
        Snapshot.refused("bars(0, 1024)", Make::busy, y -> y.bars(0, 1024), -1);
        Snapshot.refused("bars(-1, 0)", Make::busy, y -> y.bars(-1, 0), -1);
        Snapshot.refused("bars(3, 0)", Make::busy, y -> y.bars(3, 0), -1);
        Check.due("bars(2, 0)", Make.busy().bars(2, 0), 0);
        Check.about(13, "-2,000,000: no such person, bits.");
        Snapshot.refused("worth(0, -1)", Make::busy, y -> y.worth(0, -1), -2000000);
        Snapshot.refused("worth(0, 1024)", Make::busy, y -> y.worth(0, 1024), -2000000);
        Snapshot.refused("worth(-1, 0)", Make::busy, y -> y.worth(-1, 0), -2000000);
        Snapshot.refused("worth(3, 0)", Make::busy, y -> y.worth(3, 0), -2000000);
        Check.due("worth(2, 1)", Make.busy().worth(2, 1), 40);
    }

    private static void notTold() {
        Check.about(12, "1 a LESSON that isn't told;");
        LessonPurses x = new LessonPurses();
        x.person(10, 0);
        Check.due("without lessons: none", x.bars(0, 0), 0);
        Check.due("without lessons: the first", x.bars(0, 1), 1);
        for (int many = 1; many <= 10; many++) {
            x.lesson(1, many, many + 1);
            Check.due("the last one told", x.bars(0, 1 << many - 1), 0);
            if (many < 10) Check.due("the next one", x.bars(0, 1 << many), 1);
            if (many < 10) Check.due("the next one with another one", x.bars(0, 1 << many | 1), 1);
        }
    }

    private static void moreThanMost() {
        Check.about(12, "2 more than MOST of them;");
        LessonPurses x = Make.apart(1, 1, 1, 1, 1, 1, 1, 1);
        x.person(10, 0);
        for (int most = 1; most <= 6; most++) {
            x.most(most);
            Check.due("fewer than most", x.bars(0, (1 << most - 1) - 1 << 1), 0);
            Check.due("most", x.bars(0, (1 << most) - 1 << 1), 0);
            Check.due("one more", x.bars(0, (1 << most + 1) - 1 << 1), 2);
        }
    }

    /** Whether a lesson clashes with one of the hours 10 and 11. */
    private static void clash(int from, int to, boolean clash) {
        LessonPurses x = new LessonPurses();
        x.lesson(1, 10, 12);
        x.lesson(1, from, to);
        x.person(10, 0);
        Check.due("10 to 12 with " + from + " to " + to, x.bars(0, 3), clash ? 3 : 0);
        LessonPurses y = new LessonPurses();
        y.lesson(1, from, to);
        y.lesson(1, 0, 1);
        y.lesson(1, 10, 12);
        y.person(10, 0);
        Check.due(from + " to " + to + " with 10 to 12", y.bars(0, 5), clash ? 3 : 0);
        Check.due("each alone", y.bars(0, 1) + y.bars(0, 4), 0);
    }

    private static void clashes() {
        Check.about(12, "Two CLASH, if an hour is in both.");
        clash(9, 10, false);
        clash(8, 10, false);
        clash(9, 11, true);
        clash(10, 11, true);
        clash(10, 12, true);
        clash(11, 12, true);
        clash(11, 13, true);
        clash(12, 13, false);
        clash(12, 14, false);
        clash(9, 13, true);
        clash(1, 40, true);
        clash(13, 14, false);
        Check.about(12, "3 two of them CLASH;");
        LessonPurses x = new LessonPurses();
        int[][] hours = {{0, 2}, {2, 4}, {4, 6}, {3, 5}};
        for (int[] h : hours) x.lesson(1, h[0], h[1]);
        x.person(10, 0);
        int[] bars = {0, 0, 0, 0, 0, 0, 0, 0, 0, 0, 3, 3, 3, 3, 3, 3};
        for (int bundle = 0; bundle < 16; bundle++) Check.due("bundle " + bundle, x.bars(0, bundle), bars[bundle]);
        LessonPurses y = new LessonPurses();
        for (int i = 0; i < 8; i++) y.lesson(1, i, i + 1);
        y.lesson(1, 39, 40);
        y.lesson(1, 38, 40);
        y.person(10, 0);
        Check.due("the last two of ten", y.bars(0, 768), 3);
        Check.due("the last one with another one", y.bars(0, 640), 0);
        LessonPurses z = new LessonPurses();
        for (int i = 0; i < 4; i++) z.lesson(1, 3 * i / 2, 5);
        z.person(10, 0);
        for (int bundle = 0; bundle < 16; bundle++) Check.due("all clash: bundle " + bundle, z.bars(0, bundle), Integer.bitCount(bundle) > 1 ? 3 : 0);
    }

    private static void afters() {
        Check.about(12, "4 one of them comes AFTER one that isn't in it and not DONE;");
        LessonPurses x = Make.apart(1, 1, 1, 1);
        x.after(1, 0);
        x.after(2, 1);
        x.after(3, 0);
        x.after(3, 1);
        for (int done : new int[] {0, 1, 2, 3, 12}) x.person(10, done);
        int[][] due = {
            {0, 0, 4, 0, 4, 4, 4, 0, 4, 4, 4, 0, 4, 4, 4, 0},
            {0, 0, 0, 0, 4, 4, 0, 0, 4, 4, 0, 0, 4, 4, 0, 0},
            {0, 0, 4, 0, 0, 0, 4, 0, 4, 0, 4, 0, 4, 0, 4, 0},
            {0, 0, 0, 0, 0, 0, 0, 0, 0, 0, 0, 0, 0, 0, 0, 0},
            {0, 0, 4, 0, 4, 4, 4, 0, 4, 4, 4, 0, 4, 4, 4, 0}
        };
        for (int who = 0; who < due.length; who++) {
            for (int bundle = 0; bundle < 16; bundle++) Check.due("bars(" + who + ", " + bundle + ")", x.bars(who, bundle), due[who][bundle]);
        }
        LessonPurses y = Make.apart(1, 1);
        y.after(0, 1);
        y.after(1, 0);
        y.person(10, 0);
        Check.due("each after the other: one", y.bars(0, 1), 4);
        Check.due("each after the other: both", y.bars(0, 3), 0);
    }

    private static void never() {
        Check.about(12, "5 the WISHES of theirs say never.");
        LessonPurses x = Make.apart(1, 1, 1);
        Make.person(x, 10, "add 5;never if count=2;");
        x.person(10, 0);
        int[] due = {0, 0, 0, 5, 0, 5, 5, 0};
        for (int bundle = 0; bundle < 8; bundle++) {
            Check.due("bars(0, " + bundle + ")", x.bars(0, bundle), due[bundle]);
            Check.due("another one's", x.bars(1, bundle), 0);
        }
        Check.about(12, "It says never, if a \"never\" holds.");
        String[] says = {"never;", "never if 1=1;", "never if 1=2;never;", "never;never if 1=2;", "add 3;never;add 4;", "never if 1=2;never if 1=2;never if 2=2;"};
        for (String text : says) {
            Make.wish(x, 0, text);
            Check.due(text, x.bars(0, 0), 5);
            Check.due(text, x.bars(0, 7), 5);
        }
        String[] saysNot = {"", "add 3;", "never if 1=2;", "never if 1=2;never if 1>2;", "add 3 if 1=1;"};
        for (String text : saysNot) {
            Make.wish(x, 0, text);
            Check.due(text, x.bars(0, 0), 0);
            Check.due(text, x.bars(0, 7), 0);
        }
        Check.about(16, "LAWFUL: nothing bars it.");
        LessonPurses y = Make.apart(1, 1, 1);
        y.lesson(1, 5, 6);
        y.after(1, 0);
        y.most(2);
        Make.person(y, 10, "add has 0+2*has 1+3*has 2+4*has 3;never if has 0=1 and has 3=1;");
        Check.due("0 and 2", y.buys(0, 0), 5);
        y.most(3);
        Check.due("0, 1 and 2", y.buys(0, 0), 7);
        Make.wish(y, 0, "add has 0+2*has 1+3*has 2+4*has 3;never if has 3=1 and purse=10;");
        Check.due("0, 1 and 2", y.buys(0, 0), 7);
        y.purse(0, 11);
        Check.due("0, 1 and 3", y.buys(0, 0), 11);
    }

    /** Bundles that two things bar at least: the first of the two is told. */
    private static void theFirstThatHolds() {
        Check.about(12, "What BARS a BUNDLE for somebody, the first that holds:");
        LessonPurses x = new LessonPurses();
        int[][] hours = {{0, 2}, {1, 3}, {4, 5}, {6, 7}, {8, 9}};
        for (int[] h : hours) x.lesson(1, h[0], h[1]);
        x.after(3, 2);
        x.most(2);
        Make.person(x, 10, "never if has 4=1 or has 9=1;");
        Check.due("1 and 2", x.bars(0, 32 + 4 + 1), 1);
        Check.due("1 and 2, not told all", x.bars(0, 32 + 64 + 128), 1);
        Check.due("1 and 4", x.bars(0, 32 + 8), 1);
        Check.due("1 and 5", x.bars(0, 512), 1);
        Check.due("2 and 3", x.bars(0, 1 + 2 + 4), 2);
        Check.due("2 and 4", x.bars(0, 1 + 8 + 16), 2);
        Check.due("2 and 5", x.bars(0, 1 + 4 + 16), 2);
        x.most(3);
        Check.due("1 and 3", x.bars(0, 32 + 1 + 2), 1);
        Check.due("3 and 4", x.bars(0, 1 + 2 + 8), 3);
        Check.due("3 and 5", x.bars(0, 1 + 2 + 16), 3);
        Check.due("4 and 5", x.bars(0, 8 + 16), 4);
        Check.due("2 to 5", x.bars(0, 1 + 2 + 8 + 16), 2);
        Check.due("1 to 5", x.bars(0, 1023), 1);
        x.most(4);
        Check.due("3 to 5", x.bars(0, 1 + 2 + 8 + 16), 3);
        Check.due("5 alone", x.bars(0, 16), 5);
        Check.due("nothing", x.bars(0, 1 + 4 + 8), 0);
        LessonPurses y = new LessonPurses();
        int[][] late = {{6, 7}, {4, 5}, {0, 2}, {1, 3}};
        for (int[] h : late) y.lesson(1, h[0], h[1]);
        y.after(0, 1);
        y.person(10, 0);
        Check.due("3 and 4, the lesser lesson comes after", y.bars(0, 1 + 4 + 8), 3);
    }

    /** Lessons 3 to 5, 4 to 9 (they clash), 20 to 21, 0 to 1, 39 to 40; 5 to 9 aren't told. */
    private static void asks(String text, int bundle, int worth) {
        LessonPurses x = new LessonPurses();
        int[][] hours = {{3, 5}, {4, 9}, {20, 21}, {0, 1}, {39, 40}};
        for (int[] h : hours) x.lesson(1, h[0], h[1]);
        Make.person(x, 77, text);
        Check.due(text + " of " + bundle, x.worth(0, bundle), worth);
    }

    private static void hasAndCount() {
        Check.about(13, "Asked of a BUNDLE: has: 1 if the LESSON is in it, else 0;");
        for (int lesson = 0; lesson < 10; lesson++) {
            String text = "add has " + lesson + ";";
            asks(text, 0, 0);
            asks(text, 1 << lesson, 1);
            asks(text, 1023, 1);
            asks(text, 1023 - (1 << lesson), 0);
        }
        Check.about(13, "count: how many LESSONS;");
        asks("add count;", 0, 0);
        asks("add count;", 1, 1);
        asks("add count;", 16, 1);
        asks("add count;", 31, 5);
        asks("add count;", 512, 1);
        asks("add count;", 1023, 10);
    }

    private static void hoursOfBundles() {
        Check.about(13, "hours: theirs together;");
        asks("add hours;", 0, 0);
        asks("add hours;", 4, 1);
        asks("add hours;", 1, 2);
        asks("add hours;", 3, 7);
        asks("add hours;", 31, 10);
        Check.about(13, "first: the least from; last: the greatest to (both 0 without LESSONS);");
        asks("add first;", 0, 0);
        asks("add first;", 1, 3);
        asks("add first;", 3, 3);
        asks("add first;", 6, 4);
        asks("add first;", 20, 20);
        asks("add first;", 16, 39);
        asks("add first;", 8, 0);
        asks("add first;", 9, 0);
        asks("add last;", 0, 0);
        asks("add last;", 8, 1);
        asks("add last;", 1, 5);
        asks("add last;", 3, 9);
        asks("add last;", 9, 5);
        asks("add last;", 7, 21);
        asks("add last;", 16, 40);
        asks("add last;", 31, 40);
        Check.about(13, "gaps: last less first less hours;");
        asks("add gaps;", 0, 0);
        asks("add gaps;", 2, 0);
        asks("add gaps;", 3, -1);
        asks("add gaps;", 5, 15);
        asks("add gaps;", 24, 38);
        LessonPurses x = new LessonPurses();
        int[][] hours = {{20, 21}, {7, 9}, {0, 30}, {5, 36}, {10, 12}};
        for (int[] h : hours) x.lesson(1, h[0], h[1]);
        Make.person(x, 1, "add 10000*first+100*last+hours;");
        int[][] due = {{3, 72103}, {18, 71204}, {17, 102103}, {6, 3032}, {12, 3661}, {28, 3663}, {10, 53633}, {24, 53633}, {31, 3666}};
        for (int[] d : due) Check.due("first, last, hours of " + d[0], x.worth(0, d[0]), d[1]);
    }

    /** What was asked before of another bundle is nothing to this one. */
    private static void askedOneAfterAnother() {
        Check.about(13, "first: the least from; last: the greatest to (both 0 without LESSONS);");
        LessonPurses x = new LessonPurses();
        int[][] hours = {{3, 5}, {6, 9}, {20, 21}, {39, 40}};
        for (int[] h : hours) x.lesson(1, h[0], h[1]);
        Make.person(x, 7, "add 10000*first+100*last+hours;add 20000*10*has 2;never if count=2;");
        int[][] due = {
            {0, 0, 0}, {15, 34007 + 200000, 0}, {0, 0, 0}, {8, 394001, 0}, {1, 30502, 0}, {12, 204002 + 200000, 5},
            {512, 0, 1}, {2, 60903, 0}, {3, 30905, 5}, {0, 0, 0}
        };
        for (int[] d : due) {
            Check.due("worth(0, " + d[0] + ")", x.worth(0, d[0]), d[1]);
            Check.due("bars(0, " + d[0] + ")", x.bars(0, d[0]), d[2]);
        }
    }

    private static void notToldHaveNoHours() {
        Check.about(13, "purse (LESSONS that aren't told have no hours).");
        for (String word : new String[] {"hours", "first", "last", "gaps"}) {
            asks("add " + word + ";", 32, 0);
            asks("add " + word + ";", 992, 0);
        }
        asks("add first;", 32 + 4, 20);
        asks("add last;", 32 + 4, 21);
        asks("add hours;", 512 + 4, 1);
        asks("add gaps;", 512 + 4, 0);
        LessonPurses x = new LessonPurses();
        Make.person(x, 10, "add 1000*first+100*last+10*hours+count;");
        Check.due("no lessons", x.worth(0, 1), 1);
        x.lesson(1, 2, 5);
        Check.due("told then", x.worth(0, 1), 2531);
        Check.due("the next isn't", x.worth(0, 3), 2532);
    }

    private static void purses() {
        Check.about(13, "purse (LESSONS that aren't told have no hours).");
        LessonPurses x = new LessonPurses();
        Make.person(x, 0, "add 3*purse;");
        Make.person(x, 200, "add 3*purse;");
        Check.due("of one", x.worth(0, 0), 0);
        Check.due("of another one", x.worth(1, 0), 600);
        x.purse(0, 1);
        x.purse(1, 199);
        Check.due("of one", x.worth(0, 0), 3);
        Check.due("of another one", x.worth(1, 0), 597);
    }

    /** A condition that holds, and so does none of the other two signs in its place. */
    private static void holds(String left, char sign, String right) {
        for (char other : new char[] {'<', '=', '>'}) asks("add 1 if " + left + other + right + ";", 0, other == sign ? 1 : 0);
    }

    private static void heldResults() {
        Check.about(13, "Each result is held to from -10^9 to 10^9;");
        String most = "40000*25000";
        holds(most + "-1", '<', most);
        holds(most + "-1+1", '=', most);
        holds(most + "+1", '=', most);
        holds(most + "+1-1", '<', most);
        holds("99999*10000+9999", '<', most);
        holds("99999*10000+10000", '=', most);
        holds("99999*10000+10001", '=', most);
        holds("99999*10000+10001-1", '<', most);
        holds("99999*10001", '=', most);
        holds("31622*31623", '<', most);
        holds("31623*31623", '=', most);
        holds("31623*31623-14129", '<', most);
        holds(most + "*" + most, '=', most);
        holds("99999*99999*99999*99999", '=', most);
        holds("99999*99999/2", '=', "20000*25000");
        holds(most + "-(0-" + most + ")", '=', most);
        holds("(0-" + most + ")*(0-" + most + ")", '=', most);
        holds("(0-" + most + ")/(0-1)", '=', most);
        holds("99999*99999+99999*99999-99999*99999", '=', "0");
        asks("add (99999*99999-99999*10000)/10;", 0, 1000);
    }

    private static void heldBelow() {
        Check.about(13, "Each result is held to from -10^9 to 10^9;");
        String least = "(0-40000*25000)";
        holds(least + "+1", '>', least);
        holds(least + "+1-1", '=', least);
        holds(least + "-1", '=', least);
        holds(least + "-1+1", '>', least);
        holds("0-99999*10000-9999", '>', least);
        holds("0-99999*10000-10000", '=', least);
        holds("0-99999*10000-10001", '=', least);
        holds("0-99999*10000-10001+1", '>', least);
        holds("(0-99999)*10001", '=', least);
        holds("(0-31623)*31622", '>', least);
        holds("(0-31623)*31623", '=', least);
        holds("(0-31623)*31623+14129", '>', least);
        holds(least + "+" + least, '=', least);
        holds(least + "*40000*25000", '=', least);
        holds("0-99999*99999", '=', least);
    }

    private static void divisions() {
        Check.about(13, "/ towards 0, 0 by 0.");
        asks("add 5/2;", 0, 2);
        asks("add 6/2;", 0, 3);
        asks("add 7/2;", 0, 3);
        asks("add 1/2;", 0, 0);
        asks("add (0-1)/2;", 0, 0);
        asks("add (0-2)/2;", 0, -1);
        asks("add (0-3)/2;", 0, -1);
        asks("add (0-7)/2;", 0, -3);
        asks("add 7/(0-2);", 0, -3);
        asks("add (0-7)/(0-2);", 0, 3);
        asks("add 1/(0-2);", 0, 0);
        asks("add 7/1;", 0, 7);
        asks("add 7/(0-1);", 0, -7);
        asks("add 7/0;", 0, 0);
        asks("add (0-7)/0;", 0, 0);
        asks("add 0/0;", 0, 0);
        asks("add 0/7;", 0, 0);
        asks("add 7/0+5;", 0, 5);
        asks("add 7/0*5+1;", 0, 1);
        asks("add 8/has 0;", 0, 0);
        asks("add 8/has 0;", 1, 8);
        asks("add 1 if 5/0=0;", 0, 1);
    }

    private static void worths() {
        Check.about(13, "WORTH of a BUNDLE: what all \"add\" that hold tell together, held to from -1,000,000 to 1,000,000 behind each.");
        asks("add 5;", 0, 5);
        asks("add 5;add 6;", 0, 11);
        asks("add 5 if 1=1;add 6 if 1=2;add 7;", 0, 12);
        asks("add 5 if 1=2;add 6 if 1=2;", 0, 0);
        asks("add 0-5;add 3;", 0, -2);
        asks("add 5;never;", 0, 5);
        asks("never;never if 1=2;", 0, 0);
        asks("add 5;", 1023, 5);
        asks("add 1;".repeat(16), 0, 16);
        Check.about(13, "WORTH.");
        asks("add 9*has 0-4*has 1;", 0, 0);
        asks("add 9*has 0-4*has 1;", 1, 9);
        asks("add 9*has 0-4*has 1;", 2, -4);
        asks("add 9*has 0-4*has 1;", 3, 5);
        Check.about(13, "Without WISHES each WORTH is 0.");
        LessonPurses x = Make.apart(1, 1);
        x.person(10, 0);
        Check.due("worth(0, 0)", x.worth(0, 0), 0);
        Check.due("worth(0, 3)", x.worth(0, 3), 0);
        Check.due("worth(0, 1023)", x.worth(0, 1023), 0);
        Make.wish(x, 0, "add 4;");
        Check.due("with wishes", x.worth(0, 3), 4);
        x.wish(0, 0);
        Check.due("without again", x.worth(0, 3), 0);
    }

    private static void heldWorths() {
        Check.about(13, "held to from -1,000,000 to 1,000,000 behind each.");
        asks("add 10000*100-1;", 0, 999999);
        asks("add 10000*100;", 0, 1000000);
        asks("add 10000*100+1;", 0, 1000000);
        asks("add 0-10000*100+1;", 0, -999999);
        asks("add 0-10000*100;", 0, -1000000);
        asks("add 0-10000*100-1;", 0, -1000000);
        asks("add 10000*100-1;add 1;", 0, 1000000);
        asks("add 10000*100-1;add 2;", 0, 1000000);
        asks("add 10000*100-1;add 2;add 0-2;", 0, 999998);
        asks("add 10000*100;add 1;add 0-1;", 0, 999999);
        asks("add 10000*100;add 1 if 1=2;add 0-1;", 0, 999999);
        asks("add 0-10000*100;add 0-1;add 1;", 0, -999999);
        asks("add 99999*99999;add 0-99999*99999;", 0, -1000000);
        asks("add 0-99999*99999;add 99999*99999;", 0, 1000000);
        asks("add 99999*99999;add 0-10000*200+1;", 0, -999999);
        asks("add 99999*99999;add 99999*99999;add 99999*99999;", 0, 1000000);
        LessonPurses x = Make.apart(1);
        Make.person(x, 10, "add 99999*99999*has 0;");
        Check.due("bought", x.buys(0, 2), 1000000);
        Make.wish(x, 0, "add 0-99999*99999;");
        Check.due("bought", x.buys(0, 2), -1000000);
        Check.due("the least bits", x.buys(0, 0), 0);
    }
}
