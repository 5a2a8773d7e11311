/** Promises 8 to 11: the tape, the grammar of wishes, and where a fault is. */
public final class WishTextTest {
    private static final String TEN = "0123456789";

    public static void main(String[] args) {
        tape();
        goodTexts();
        faults();
        deep();
        many();
        faultOrNone();
        Check.end("WishTextTest");
    }

    private static LessonPurses one() {
        LessonPurses x = new LessonPurses();
        x.lesson(1, 3, 5);
        x.person(100, 0);
        return x;
    }

    private static void tape() {
        LessonPurses x = one();
        for (int i = 1; i <= 20; i++) Check.due("feed " + i, x.feed(0, 0, 0, 0, 0), 20 * i);
        Check.due("feed, full", x.feed(0, 0, 0, 0, 0), -1);
        Check.due("count(5)", x.count(5), 400);
        Check.due("wish: more than there are", x.wish(0, 401), -2);
        Check.due("wish: below 0", x.wish(0, -1), -2);
        Check.due("wish: no such person", x.wish(1, 1), -2);
        Check.due("wish: no such person", x.wish(-1, 1), -2);
        Check.due("falsely: more than there are", x.falsely(401), -2);
        Check.due("falsely: below 0", x.falsely(-1), -2);
        Check.due("nothing was done", x.count(5), 400);
        Check.due("wish(0, 0)", x.wish(0, 0), 0);
        Check.due("the tape is empty", x.count(5), 0);
        Check.due("feed", x.feed(0x61646420, 0x373b6164, 0x6420383b, 0x20202020, -1), 20);
        Check.due("the first n bytes alone", x.wish(0, 6), 1);
        Check.due("worth", x.worth(0, 0), 7);
        Check.due("the rest is gone", x.count(5), 0);
        x.feed(0x61646420, 0x373b6164, 0x6420383b, 0x0a0a2020, -1);
        Check.due("highest byte first", x.wish(0, 16), 2);
        Check.due("worth", x.worth(0, 0), 15);
        x.feed(0x61646420, 0x373b6164, 0x6420383b, 0x0a0a2020, -1);
        Check.due("a byte that begins nothing", x.wish(0, 17), -1);
        Check.due("its place", x.fault(), 16);
        Check.due("the tape is empty behind a fault, too", x.count(5), 0);
        Check.due("those that were stay", x.worth(0, 0), 15);
    }

    private static void good(String text, int statements, int worth) {
        LessonPurses x = one();
        Check.due(text, Check.wish(x, 0, text), statements);
        Check.due(text + " fault", x.fault(), -1);
        Check.due(text + " worth", x.worth(0, 1), worth);
        Check.due(text + " falsely", Check.falsely(x, text), statements);
        Check.due(text + " told", x.count(9), 1);
    }

    private static void goodTexts() {
        good("", 0, 0);
        good(" \n ", 0, 0);
        good("add 5;", 1, 5);
        good("add5;add6if has0=1;", 2, 11);
        good("\nadd\n99999 ; ", 1, 99999);
        good("add 00012;add has 00000;", 2, 13);
        good("never;never if 1<2;", 2, 0);
        good("add 2+3*4-6/2;", 1, 11);
        good("add 20-5-3;add 100/5/2;add 7/2*2;", 3, 28);
        good("add (2+3)*4;", 1, 20);
        good("add count+hours+first+last+gaps+purse+has 0;", 1, 1 + 2 + 3 + 5 + 0 + 100 + 1);
        good("add 1 if 1<2 or 1<0 and 1<0;add 2 if [1<2 or 1<0] and 1<0;", 2, 1);
        good("add 1 if not 1<0 and 1=1;add 2 if not [1<2 and 1>2];add 4 if not not 3>2;", 3, 7);
        good("add 1 if (1)<(2);add 2 if 1+1=2*1;", 2, 3);
        good("add 1 if 1<0 or 1<0 or 1<2 and 2<3 and 3<4;", 1, 1);
    }

    private static void bad(String text, int place) {
        LessonPurses x = one();
        Check.wish(x, 0, "add 3;");
        Check.due(text, Check.wish(x, 0, text), -1);
        Check.due(text + " fault", x.fault(), place);
        Check.due(text + " those that were stay", x.worth(0, 0), 3);
        Check.due(text + " falsely", Check.falsely(x, text), -1);
        Check.due(text + " falsely: fault", x.fault(), place);
        Check.due(text + " none told", x.count(9), 0);
    }

    private static void faults() {
        bad("add", 3);
        bad("add  ", 5);
        bad("add 5", 5);
        bad("add 5 \n", 7);
        bad("ad", 0);
        bad("ADD 5;", 0);
        bad("adds 5;", 0);
        bad("addif 5;", 0);
        bad("addz 5;", 0);
        bad("adda 5;", 0);
        bad("bdd 5;", 0);
        bad("adc 5;", 0);
        bad("add fount;", 4);
        bad("add purs;", 4);
        bad("add pursee;", 4);
        bad(";", 0);
        bad("5;", 0);
        bad("add 5;;", 6);
        bad("add 5; if", 7);
        bad("add;", 3);
        bad("add -5;", 4);
        bad("add 5+;", 6);
        bad("add 5*+3;", 6);
        bad("add 5 5;", 6);
        bad("add 123456;", 4);
        bad("add 5+123456;", 6);
        bad("add 5 123456;", 6);
        bad("add has;", 7);
        bad("add has 10;", 8);
        bad("add has 123456;", 8);
        bad("add has has 1;", 8);
        bad("add has count;", 8);
        bad("add has", 7);
        bad("add counts;", 4);
        bad("add purse count;", 10);
        bad("add (5;", 6);
        bad("add (5", 6);
        bad("add ();", 5);
        bad("add 5);", 5);
        bad("add [5];", 4);
        bad("add not 5;", 4);
        bad("never 5;", 6);
        bad("never", 5);
        bad("never if;", 8);
        bad("never if", 8);
        bad("never if 1;", 10);
        bad("never if 1<;", 11);
        bad("never if 1<2<3;", 12);
        bad("never if 1<2 3;", 13);
        bad("never if (1<2);", 11);
        bad("never if [1<2;", 13);
        bad("never if [1<2);", 13);
        bad("never if 1<2];", 12);
        bad("never if []", 10);
        bad("never if not;", 12);
        bad("never if 1<2 and;", 16);
        bad("never if 1<2 or or 1<2;", 16);
        bad("never if and 1<2;", 9);
        bad("never if 1<2 if 1<2;", 13);
        bad("never if 1==2;", 11);
        bad("add 5 & 3;", 6);
        bad("add 5\t;", 5);
        bad("add 5;#", 6);
        bad("add \u00e9;", 4);
        bad("add 1;never if first<3 and gaps>", 32);
        bad("add 1; never if first<3 and gap>2;", 28);
    }

    private static void deep() {
        String close = ")".repeat(9);
        good("add " + "(".repeat(9) + "7" + close + ";", 1, 7);
        bad("add " + "(".repeat(10) + "7" + close + ");", 13);
        good("add 1 if " + "not ".repeat(9) + "1<0;", 1, 1);
        bad("add 1 if " + "not ".repeat(10) + "1<0;", 9 + 36);
        good("add 1 if " + "[".repeat(9) + "1<2" + "]".repeat(9) + ";", 1, 1);
        bad("add 1 if " + "[".repeat(10) + "1<2" + "]".repeat(10) + ";", 18);
        good("add 1 if not [not [not [1<2+(((2)))]]];", 1, 0);
        bad("add 1 if not [not [not [not [1<((2))]]]];", 9 + 4 + 1 + 4 + 1 + 4 + 1 + 4 + 1 + 2 + 1);
        good("add 1 if not [not [not [not [1<(2)]]]] and not [not [not [not [1<(2)]]]];", 1, 1);
        good("add " + "(".repeat(9) + "7" + close + "+" + "(".repeat(9) + "7" + close + " if not 1<0 and not 1<0;", 1, 14);
    }

    private static void many() {
        good("add 1;".repeat(16), 16, 16);
        good("add 1;".repeat(16) + "  \n", 16, 16);
        bad("add 1;".repeat(16) + "  add 1;", 98);
        bad("add 1;".repeat(17), 96);
        bad("never;".repeat(16) + "never", 96);
        bad("add 1;".repeat(15) + "add", 93);
        good("add " + "1+".repeat(197) + "1;", 1, 198);
        bad("add " + "1+".repeat(198), 400);
        bad(TEN.repeat(40), 0);
        bad(";".repeat(400), 0);
        bad("add " + "(".repeat(396), 13);
        bad("add " + "1-".repeat(197) + "1)", 399);
        good("add " + "1-".repeat(10) + "1 if " + "1<2 or ".repeat(50) + "1<2;", 1, -9);
    }

    private static void faultOrNone() {
        LessonPurses x = one();
        Check.due("at first", x.fault(), -1);
        Check.wish(x, 0, "add 5");
        Check.due("a fault", x.fault(), 5);
        Check.due("refused", x.wish(3, 0), -2);
        Check.due("refused", x.falsely(1), -2);
        Check.due("it stays", x.fault(), 5);
        Check.due("good", Check.falsely(x, "add 5;"), 1);
        Check.due("none now", x.fault(), -1);
        Check.due("bad", Check.falsely(x, "add 5;add"), -1);
        Check.due("a fault", x.fault(), 9);
        Check.due("false wishes that were stay", x.count(9), 1);
        Check.due("good", Check.wish(x, 0, "add 5;"), 1);
        Check.due("none now", x.fault(), -1);
        Check.due("no bytes are wishes, too", x.falsely(0), 0);
        LessonPurses y = one();
        Check.due("falsely(0)", y.falsely(0), 0);
        Check.due("told", y.count(9), 1);
    }
}
