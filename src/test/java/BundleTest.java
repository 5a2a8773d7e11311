/** Promises 12 and 13: what bars a bundle, and its worth. */
public final class BundleTest {
    public static void main(String[] args) {
        bars();
        words();
        arithmetic();
        worths();
        Check.end("BundleTest");
    }

    private static void bars() {
        LessonPurses x = new LessonPurses();
        x.lesson(1, 9, 11);
        x.lesson(1, 11, 13);
        x.lesson(1, 10, 12);
        x.lesson(1, 12, 14);
        x.lesson(1, 0, 40);
        x.after(3, 0);
        x.after(3, 1);
        x.person(10, 0);
        x.person(10, 2);
        x.person(10, 1);
        Check.wish(x, 2, "never if has 1=1 or count>4 or has 7=1;");
        Check.due("nothing", x.bars(0, 0), 0);
        Check.due("one ends where the other begins", x.bars(0, 3), 0);
        Check.due("they clash", x.bars(0, 5), 3);
        Check.due("they clash", x.bars(0, 6), 3);
        Check.due("one hour in another's", x.bars(0, 17), 3);
        Check.due("not told", x.bars(0, 32), 1);
        Check.due("not told comes first", x.bars(0, 1023), 1);
        Check.due("too many comes before clashes", x.bars(0, 31), 2);
        x.most(2);
        Check.due("too many comes before clashes", x.bars(0, 7), 2);
        x.most(6);
        Check.due("clashes then", x.bars(0, 7), 3);
        Check.due("clash comes before after", x.bars(0, 10), 3);
        Check.due("after both", x.bars(0, 8), 4);
        Check.due("after one of them", x.bars(0, 9), 4);
        Check.due("one done", x.bars(1, 8), 4);
        Check.due("one done, one in it", x.bars(1, 9), 0);
        Check.due("after comes before never", x.bars(2, 8), 4);
        Check.due("never", x.bars(2, 2), 5);
        Check.due("not never", x.bars(2, 1), 0);
        Check.due("not told comes before never", x.bars(2, 128), 1);
        Check.due("no such person", x.bars(3, 0), -1);
        Check.due("no such person", x.bars(-1, 0), -1);
        Check.due("no such bits", x.bars(0, 1024), -1);
        Check.due("no such bits", x.bars(0, -1), -1);
        x.lesson(1, 0, 1);
        Check.due("told now", x.bars(0, 32), 0);
    }

    /** Three lessons: 9 to 11, 10 to 14 (they clash), 20 to 21. */
    private static LessonPurses three(String text) {
        LessonPurses x = new LessonPurses();
        x.lesson(1, 9, 11);
        x.lesson(1, 10, 14);
        x.lesson(1, 20, 21);
        x.person(77, 0);
        Check.due(text, Check.wish(x, 0, text) > 0, true);
        return x;
    }

    private static void asks(String text, int bundle, int worth) {
        Check.due(text + " of " + bundle, three(text).worth(0, bundle), worth);
    }

    private static void words() {
        asks("add count;", 0, 0);
        asks("add count;", 7, 3);
        asks("add count;", 1023, 10);
        asks("add hours;", 7, 7);
        asks("add hours;", 1016, 0);
        asks("add first;", 0, 0);
        asks("add first;", 6, 10);
        asks("add first;", 7, 9);
        asks("add first;", 8, 0);
        asks("add first;", 12, 20);
        asks("add last;", 0, 0);
        asks("add last;", 3, 14);
        asks("add last;", 7, 21);
        asks("add last;", 512, 0);
        asks("add gaps;", 5, 9);
        asks("add gaps;", 3, -1);
        asks("add gaps;", 0, 0);
        asks("add gaps;", 2, 0);
        asks("add purse;", 0, 77);
        asks("add has 2;", 4, 1);
        asks("add has 2;", 3, 0);
        asks("add has 9;", 512, 1);
        asks("add 5*has 0+7*has 1;", 3, 12);
    }

    private static void arithmetic() {
        asks("add 7/2;", 0, 3);
        asks("add (0-7)/2;", 0, -3);
        asks("add 7/(0-2);", 0, -3);
        asks("add 5/0;", 0, 0);
        asks("add 5/has 0;add 5/(1-1)*3+1;", 0, 1);
        asks("add 1+2*3;", 0, 7);
        asks("add 10-2-3;", 0, 5);
        asks("add 10-2*3+1;", 0, 5);
        asks("add 24/4/3;", 0, 2);
        asks("add 24/(4/3);", 0, 24);
        asks("add 99999*99999/1000;", 0, 1000000);
        asks("add 99999*99999/10000;", 0, 100000);
        asks("add (0-99999)*99999/10000;", 0, -100000);
        asks("add (99999*99999+99999)/10000;", 0, 100000);
        asks("add (0-99999*99999-99999)/10000;", 0, -100000);
        asks("add (99999*99999-1-99999*99999)*2;", 0, -2);
        asks("add 1 if 99999*99999=99999*99999+1;", 0, 1);
        asks("add 1 if 99999*99999=99999*10000+10000;", 0, 1);
        asks("add 1 if 99999*10000+9999<99999*99999;", 0, 1);
        asks("add 1 if 0-99999*99999-1=0-99999*10000-10000;", 0, 1);
        asks("add 1 if 0-99999*10000-9999>0-99999*99999;", 0, 1);
    }

    private static void worths() {
        asks("add 5;add 6 if has 0=1;add 7 if has 0=0;never;", 1, 11);
        asks("add 99999*20;", 0, 1000000);
        asks("add 0-99999*20;", 0, -1000000);
        asks("add 99999*20;add 0-5;", 0, 999995);
        asks("add 99999*20;add 99999*20;add 0-99999*20;", 0, -999980);
        asks("add 3 if 2<2;add 4 if 2>2;add 5 if 2=2;add 6 if 1<2;add 7 if 2>1;add 8 if 1=2;", 0, 18);
        asks("add 1 if not 1=1 or 2=2;add 2 if not [1=1 or 2=2];", 0, 1);
        LessonPurses x = three("add 4*count;");
        Check.due("those that were are gone", Check.wish(x, 0, "add 1;"), 1);
        Check.due("worth", x.worth(0, 7), 1);
        Check.due("no wishes", x.wish(0, 0), 0);
        Check.due("worth", x.worth(0, 7), 0);
        Check.due("no such person", x.worth(1, 0), -2000000);
        Check.due("no such person", x.worth(-1, 0), -2000000);
        Check.due("no such bits", x.worth(0, 1024), -2000000);
        Check.due("no such bits", x.worth(0, -1), -2000000);
        Check.wish(x, 0, "add hours;");
        Check.due("not told yet", x.worth(0, 8), 0);
        x.lesson(1, 30, 36);
        Check.due("told", x.worth(0, 8), 6);
    }
}
