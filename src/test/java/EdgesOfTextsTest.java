import java.util.Arrays;
import java.util.List;

/** The edges of promises 8 to 11: the tape, which texts are wishes, and where a fault is. */
public final class EdgesOfTextsTest {
    public static void main(String[] args) {
        feed();
        fourHundred();
        firstBytes();
        cutInTokens();
        longTexts();
        refusedWishes();
        faultsKeepWishes();
        falsely();
        fault();
        statements();
        grammar();
        everyToken();
        everyCut();
        numbers();
        behindHas();
        tokensAsLongAsTheyGo();
        everyLetter();
        everyByte();
        nineOpen();
        sixteenStatements();
        Check.end("EdgesOfTextsTest");
    }

    private static LessonPurses one() {
        LessonPurses x = new LessonPurses();
        x.lesson(1, 3, 5);
        x.person(100, 0);
        return x;
    }

    private static void feed() {
        Check.about(8, "Twenty bytes come behind those on the tape, of each number the highest first: how many there are.");
        LessonPurses x = one();
        Check.due("the first twenty", x.feed('a' << 24 | 'd' << 16 | 'd' << 8 | ' ', '9' << 24 | '-' << 16 | '2' << 8 | '*',
            '3' << 24 | '+' << 16 | '8' << 8 | '/', '4' << 24 | ';' << 16 | 'n' << 8 | 'e', 'v' << 24 | 'e' << 16 | 'r' << 8 | ' '), 20);
        Check.due("the next come behind them", x.feed('i' << 24 | 'f' << 16 | ' ' << 8 | 'c', 'o' << 24 | 'u' << 16 | 'n' << 8 | 't',
            '<' << 24 | '1' << 16 | ';' << 8, 0, 0), 40);
        Check.due("count(5)", x.count(5), 40);
        Check.due("wish", x.wish(0, 31), 2);
        Check.due("worth", x.worth(0, 0), 9 - 6 + 2);
        Check.due("never", x.bars(0, 0), 5);
        Check.due("never", x.bars(0, 1), 0);
        for (int i = 0; i < 20; i++) {
            int[] five = {0x20202020, 0x20202020, 0x20202020, 0x20202020, 0x20202020};
            five[i / 4] |= 255 << 24 - i % 4 * 8;
            x.feed(five[0], five[1], five[2], five[3], five[4]);
            Check.due("a byte of all bits at " + i, x.wish(0, 20), -1);
            Check.due("its place", x.fault(), i);
        }
    }

    private static void fourHundred() {
        Check.about(8, "NONE, doing nothing: there would be more than 400.");
        LessonPurses x = one();
        for (int i = 1; i < 19; i++) x.feed(0, 0, 0, 0, 0);
        Check.due("the nineteenth", x.feed(0, 0, 0, 0, 0), 380);
        Check.due("the twentieth", x.feed(0, 0, 0, 0, 0), 400);
        Check.due("the twenty-first", x.feed(0, 0, 0, 0, 0), -1);
        Check.due("count(5)", x.count(5), 400);
        Snapshot.refused("on a full tape", Make::full, y -> y.feed(1633969211, 0, 0, 0, 0), -1);
        Check.due("all of them", Make.full().wish(0, 400), 2);
        LessonPurses z = Make.full();
        z.feed(-1, -1, -1, -1, -1);
        Check.due("none was written over", z.wish(0, 400), 2);
        Check.due("empty then", z.feed(0, 0, 0, 0, 0), 20);
    }

    private static void firstBytes() {
        Check.about(9, "The first n bytes of the tape (which is empty then) are the WISHES of somebody, in place of those that were: "
            + "how many statements.");
        String text = "add 7;add 80;add 900;add 1000;never if 9";
        int[][] due = {{0, 0, 0}, {5, -1, 0}, {6, 1, 7}, {7, -1, 0}, {12, -1, 0}, {13, 2, 87}, {14, -1, 0}, {21, 3, 987}, {29, -1, 0}, {30, 4, 1987}, {40, -1, 0}};
        for (int[] d : due) {
            LessonPurses x = one();
            Check.feed(x, text);
            Check.due("wish(0, " + d[0] + ")", x.wish(0, d[0]), d[1]);
            Check.due("the worth then", x.worth(0, 1), d[2]);
            Check.due("the tape is empty", x.count(5), 0);
            Check.due("nothing more to read", x.wish(0, 1), -2);
        }
        LessonPurses x = one();
        x.person(100, 0);
        Check.due("one's wishes", Check.wish(x, 0, "add 5;add 6;"), 2);
        Check.due("the other's", Check.wish(x, 1, "add 30;"), 1);
        Check.due("one's", x.worth(0, 0), 11);
        Check.due("the other's", x.worth(1, 0), 30);
        Check.due("in place of those that were", Check.wish(x, 0, "never;"), 1);
        Check.due("one's", x.worth(0, 0), 0);
        Check.due("one's", x.bars(0, 0), 5);
        Check.due("nothing in place of them", x.wish(0, 0), 0);
        Check.due("one's", x.bars(0, 0), 0);
        Check.due("the other's stay", x.worth(1, 0), 30);
    }

    /** The first n bytes of a text; what is behind them is nothing to it, though the token would go on there. */
    private static void cut(String text, int n, int statements, int place) {
        LessonPurses x = one();
        Check.feed(x, text);
        Check.due(n + " bytes of " + text, x.wish(0, n), statements);
        Check.due(n + " bytes of " + text + ": fault", x.fault(), place);
        Check.feed(x, text);
        Check.due(n + " bytes of " + text + ", falsely", x.falsely(n), statements);
        Check.due(n + " bytes of " + text + ", falsely: fault", x.fault(), place);
    }

    private static void cutInTokens() {
        Check.about(9, "The first n bytes of the tape (which is empty then) are the WISHES of somebody, in place of those that were: "
            + "how many statements.");
        cut("add hours;", 8, -1, 4);
        cut("add hours;", 9, -1, 9);
        cut("add hours;", 10, 1, -1);
        cut("never;", 4, -1, 0);
        cut("never;", 5, -1, 5);
        cut("never;", 6, 1, -1);
        cut("add 123456;", 8, -1, 8);
        cut("add 123456;", 9, -1, 9);
        cut("add 123456;", 10, -1, 4);
        cut("add has 10;", 9, -1, 9);
        cut("add has 10;", 10, -1, 8);
        cut("add 7if 1<2;", 6, -1, 5);
        cut("add 7if 1<2;", 7, -1, 7);
        cut("add 7;add 8;", 5, -1, 5);
        cut("add 7;add 8;", 6, 1, -1);
        cut("add 7;add 8;", 7, -1, 6);
    }

    /** Texts of 399 and 400 bytes, some with a token for each byte. */
    private static void longTexts() {
        Check.about(8, "NONE, doing nothing: there would be more than 400.");
        bad(";".repeat(399), 0);
        bad(";".repeat(400), 0);
        bad("add" + "(".repeat(397), 3 + 9);
        good("add " + "1+".repeat(196) + "1; ", 1, 197);
        good("add " + "1+".repeat(197) + "1;", 1, 198);
        bad("add " + "1+".repeat(197) + "1", 399);
        bad("add " + "1+".repeat(198), 400);
        bad("add " + "1+".repeat(197) + "+;", 398);
        good("add 7;" + " ".repeat(394), 1, 7);
        good(" ".repeat(394) + "add 7;", 1, 7);
        bad(" ".repeat(395) + "add 7", 400);
        bad(" ".repeat(399) + ";", 399);
        good(" ".repeat(400), 0, 0);
        good("add has 0;".repeat(15) + " ".repeat(240) + "add has 0;", 16, 16);
    }

    private static void refusedWishes() {
        Check.about(9, "-2, doing nothing: n is below 0 or more than there are, no such person.");
        Snapshot.refused("wish(0, -1)", Make::busy, x -> x.wish(0, -1), -2);
        Check.due("wish(0, 0)", Make.busy().wish(0, 0), 0);
        Check.due("as many as there are", Make.busy().wish(0, 40), 2);
        Snapshot.refused("more than there are", Make::busy, x -> x.wish(0, 41), -2);
        Snapshot.refused("more than a tape holds", Make::full, x -> x.wish(0, 401), -2);
        Snapshot.refused("an empty tape", EdgesOfTextsTest::one, x -> x.wish(0, 1), -2);
        Snapshot.refused("no person -1", Make::busy, x -> x.wish(-1, 13), -2);
        Check.due("the last person", Make.busy().wish(2, 13), 1);
        Snapshot.refused("no person 3", Make::busy, x -> x.wish(3, 13), -2);
        Snapshot.refused("no person 3, no bytes", Make::busy, x -> x.wish(3, 0), -2);
    }

    private static void faultsKeepWishes() {
        Check.about(9, "NONE: a FAULT (those that were stay);");
        LessonPurses x = one();
        Check.due("good", Check.wish(x, 0, "add 5;"), 1);
        Check.due("the last token lacks", Check.wish(x, 0, "add 6;add 7"), -1);
        Check.due("those that were", x.worth(0, 0), 5);
        Check.due("what is bought", x.buys(0, 2), 5);
        Check.due("the tape is empty, too", x.count(5), 0);
        Check.due("good", Check.wish(x, 0, "add 6;add 7;"), 2);
        Check.due("new ones", x.worth(0, 0), 13);
    }

    private static void falsely() {
        Check.about(10, "Likewise the FALSE WISHES (NONE: a FAULT;");
        LessonPurses x = Make.apart(1, 1);
        Make.person(x, 100, "add 9*has 0+4*has 1;never if count>1;");
        Check.due("none are told", x.count(9), 0);
        Check.due("a fault", Check.falsely(x, "add 5"), -1);
        Check.due("its place", x.fault(), 5);
        Check.due("still none", x.count(9), 0);
        Check.due("the tape is empty", x.count(5), 0);
        Check.due("good", Check.falsely(x, "never if has 0=1;add count;"), 2);
        Check.due("no fault", x.fault(), -1);
        Check.due("told", x.count(9), 1);
        Check.due("the other lesson", x.gain(4, 0), 4 - 9);
        Check.due("a fault", Check.falsely(x, "never;!"), -1);
        Check.due("told", x.count(9), 1);
        Check.due("those that were stay", x.gain(4, 0), 4 - 9);
        Check.due("good", Check.falsely(x, "never;"), 1);
        Check.due("in place of those that were", x.gain(4, 0), -9);
        Check.due("nobody's own wishes", x.worth(0, 1), 9);
        Check.due("the first n bytes", x.feed('a' << 24 | 'd' << 16 | 'd' << 8 | '7', ';' << 24 | 'x' << 16, 0, 0, 0), 20);
        Check.due("the first n bytes", x.falsely(5), 1);
        Check.due("the tape is empty", x.count(5), 0);
        LessonPurses y = one();
        Check.due("no statements are wishes, too", y.falsely(0), 0);
        Check.due("told", y.count(9), 1);
        Check.about(10, "-2: n likewise).");
        Snapshot.refused("falsely(-1)", Make::busy, z -> z.falsely(-1), -2);
        Check.due("falsely(0)", Make.busy().falsely(0), 0);
        Check.due("as many as there are", Make.busy().falsely(40), 2);
        Snapshot.refused("more than there are", Make::busy, z -> z.falsely(41), -2);
        Snapshot.refused("an empty tape", LessonPurses::new, z -> z.falsely(1), -2);
        Check.due("nobody is there", new LessonPurses().falsely(0), 0);
    }

    private static void fault() {
        LessonPurses x = one();
        Check.about(11, "NONE: it had none.");
        Check.due("a new object", x.fault(), -1);
        Check.due("good", Check.wish(x, 0, "add 5;"), 1);
        Check.due("none", x.fault(), -1);
        Check.about(11, "The FAULT's place of the latest wish() or falsely() that was a number or NONE;");
        Check.due("bad", Check.wish(x, 0, "add 5;;"), -1);
        Check.due("its place", x.fault(), 6);
        Check.due("the latest alone", Check.falsely(x, "?"), -1);
        Check.due("its place", x.fault(), 0);
        Check.due("bad", Check.wish(x, 0, "add (5"), -1);
        Check.due("wish: -2", x.wish(1, 0), -2);
        Check.due("stays", x.fault(), 6);
        Check.due("falsely: -2", x.falsely(1), -2);
        Check.due("stays", x.fault(), 6);
        Check.due("no statement, but a number", x.falsely(0), 0);
        Check.due("none now", x.fault(), -1);
        Check.due("bad", Check.wish(x, 0, "add"), -1);
        Check.due("its place", x.fault(), 3);
        Check.due("good", Check.wish(x, 0, "add 1;"), 1);
        Check.due("none now", x.fault(), -1);
    }

    /** A text that is good, for wishes and for false ones, and the worth of the bundle 1 by it. */
    private static void good(String text, int statements, int worth) {
        LessonPurses x = one();
        Check.due(text, Check.wish(x, 0, text), statements);
        Check.due(text + ": no fault", x.fault(), -1);
        Check.due(text + ": worth", x.worth(0, 1), worth);
        Check.due(text + ": falsely", Check.falsely(x, text), statements);
    }

    /** A text with a fault, for wishes and for false ones. */
    private static void bad(String text, int place) {
        LessonPurses x = one();
        Check.due(text, Check.wish(x, 0, text), -1);
        Check.due(text + ": fault", x.fault(), place);
        Check.due(text + ": falsely", Check.falsely(x, text), -1);
        Check.due(text + ": fault", x.fault(), place);
    }

    private static void statements() {
        Check.about(9, "WISHES of each are a text: {(\"add\" EX | \"never\") [\"if\" ANY] \";\"}.");
        good("", 0, 0);
        good(" ", 0, 0);
        good("add 4;", 1, 4);
        good("add 4 if 1=1;", 1, 4);
        good("add 4 if 1=2;", 1, 0);
        good("never;", 1, 0);
        good("never if 1=1;", 1, 0);
        good("never;add 4;", 2, 4);
        bad(";", 0);
        bad("add;", 3);
        bad("never 4;", 6);
        bad("if 1=1;", 0);
        bad("add 4 never;", 6);
        bad("add 4 if;", 8);
        bad("add 4;;", 6);
    }

    private static void grammar() {
        Check.about(9, "EX: PROD {(\"+\" | \"-\") PROD}.");
        good("add 5;add 5+4;add 5-4;add 5-4+3-2;", 4, 5 + 9 + 1 + 2);
        good("add 2*3+4*5-6/3;", 1, 24);
        Check.about(9, "PROD: ATOM {(\"*\" | \"/\") ATOM}.");
        good("add 5*4;add 9/4;add 7*6/4*3/2;", 3, 20 + 2 + 15);
        Check.about(9, "ATOM: NUMBER | \"has\" NUMBER | WORD | \"(\" EX \")\".");
        good("add 8;add has 0;add has 1;add hours;add (7-2);", 5, 8 + 1 + 0 + 2 + 5);
        Check.about(9, "ANY: ALL {\"or\" ALL}.");
        good("add 1 if 1=2;add 2 if 1=2 or 1=1;add 4 if 1=1 or 1=2;add 8 if 1=2 or 1=2 or 1=1;add 16 if 1=2 or 1=2;", 5, 14);
        Check.about(9, "ALL: ONE {\"and\" ONE}.");
        good("add 1 if 1=2 and 1=1;add 2 if 1=1 and 1=1;add 4 if 1=1 and 1=2;add 8 if 1=1 and 1=1 and 1=1;", 4, 10);
        good("add 1 if 1=1 or 1=2 and 1=2;add 2 if 1=2 and 1=2 or 1=1;add 4 if 1=2 and 1=1 or 1=2;", 3, 3);
        Check.about(9, "ONE: \"not\" ONE | \"[\" ANY \"]\" | EX (\"<\" | \">\" | \"=\") EX.");
        good("add 1 if not 1=1;add 2 if not 1=2;add 4 if not not 1=1;", 3, 6);
        good("add 1 if [1=1 or 1=2] and 1=2;add 2 if [1=1];add 4 if not [1=1 and 1=2];", 3, 6);
        good("add 1 if not 1=1 or 1=1;add 2 if not 1=2 and 1=2;", 2, 1);
        good("add 1 if 1<2;add 2 if 2<2;add 4 if 3<2;add 8 if 1>2;add 16 if 2>2;add 32 if 3>2;", 6, 33);
        good("add 1 if 1=2;add 2 if 2=2;add 4 if 3=2;add 8 if 1+1=4/2;", 4, 10);
        joined("1<2", true);
        joined("2<2", false);
        joined("2>1", true);
        joined("2>2", false);
        joined("2=2", true);
        joined("2=1", false);
        joined("[1<2]", true);
        joined("not 2>1", false);
        joined("not 2=1", true);
        joined("[2>1 and 2=2]", true);
        joined("[1>2 or 2=1]", false);
        joined("[1<2 or 2>1]", true);
        Check.about(9, "WORD: count, hours, first, last, gaps, purse.");
        good("add count;add hours;add first;add last;add gaps;add purse;", 6, 1 + 2 + 3 + 5 + 0 + 100);
        bad("add counts;", 4);
        bad("add hour;", 4);
        bad("add place;", 4);
        bad("add purses;", 4);
        bad("add Count;", 4);
    }

    /** A condition that holds or doesn't, alone and together with others. */
    private static void joined(String one, boolean holds) {
        String[] all = {one, "not not " + one, one + " and 1=1", "1=1 and " + one, one + " or 1=2", "2<1 or " + one, one + " and " + one, one + " or " + one};
        for (String any : all) {
            good("add 7 if " + any + ";", 1, holds ? 7 : 0);
            good("add 7 if not [" + any + "];", 1, holds ? 0 : 7);
        }
        good("add 7 if not " + one + ";", 1, holds ? 0 : 7);
        good("add 7 if " + one + " and not 1=1;", 1, 0);
        good("add 7 if " + one + " or not 1=2;", 1, 7);
    }

    private static final String[] TOKENS = {
        "add", "never", "if", "or", "and", "not", "has", "count", "hours", "first", "last", "gaps", "purse", "7",
        ";", "+", "-", "*", "/", "(", ")", "[", "]", "<", ">", "="
    };

    /** Behind these words exactly those tokens may come; a text is done behind a statement alone. */
    private static void next(String words, String may) {
        List<String> good = Arrays.asList(may.replace("ATOM", "7 has count hours first last gaps purse (").split(" "));
        for (String token : TOKENS) {
            String text = words.isEmpty() ? token : words + " " + token;
            boolean done = token.equals(";") && good.contains(token);
            LessonPurses x = one();
            Check.due(text, Check.wish(x, 0, text) >= 0, done);
            Check.due(text + ": fault", x.fault(), done ? -1 : good.contains(token) ? text.length() : text.length() - token.length());
        }
    }

    private static void everyToken() {
        Check.about(11, "FAULT: the place of the first byte of the first token (or byte that begins none) with which no such text goes on");
        next("", "add never");
        next("add", "ATOM");
        next("add 7", "+ - * / if ;");
        next("add has", "7");
        next("add has 7", "+ - * / if ;");
        next("add gaps", "+ - * / if ;");
        next("add 7 +", "ATOM");
        next("add 7 -", "ATOM");
        next("add 7 *", "ATOM");
        next("add 7 /", "ATOM");
        next("add 7 * 7", "+ - * / if ;");
        next("add (", "ATOM");
        next("add ( 7", "+ - * / )");
        next("add ( 7 )", "+ - * / if ;");
        next("add ( ( 7 )", "+ - * / )");
        next("add 7 if", "ATOM not [");
        next("never", "if ;");
        next("never if", "ATOM not [");
        next("never if not", "ATOM not [");
        next("never if [", "ATOM not [");
        next("never if has", "7");
        next("never if 7", "+ - * / < > =");
        next("never if ( 7", "+ - * / )");
        next("never if ( 7 )", "+ - * / < > =");
        next("never if 7 <", "ATOM");
        next("never if 7 >", "ATOM");
        next("never if 7 =", "ATOM");
        next("never if 7 < 7", "+ - * / and or ;");
        next("never if 7 < ( 7", "+ - * / )");
        next("never if not 7 < 7", "+ - * / and or ;");
        next("never if 7 < 7 and", "ATOM not [");
        next("never if 7 < 7 or", "ATOM not [");
        next("never if 7 < 7 and 7 > 7", "+ - * / and or ;");
        next("never if 7 < 7 or 7 = 7", "+ - * / and or ;");
        next("never if [ 7 < 7", "+ - * / and or ]");
        next("never if [ 7 < 7 ]", "and or ;");
        next("never if not [ 7 < 7 ]", "and or ;");
        next("never if [ [ 7 < 7 ]", "and or ]");
        next("never ;", "add never");
        next("add 7 ; never if 7 < 7 ;", "add never");
    }

    /** A good text, cut behind each of its tokens: more must come. With a byte behind it that begins none: there. */
    private static void everyCut() {
        Check.about(11, "the text's length, if more must come;");
        String text = "add ( has 1 + 22 ) * count - 3 / gaps if not [ first < 4 or last > ( 5 ) ] and not purse = 6 ; never ;";
        String[] tokens = text.split(" ");
        StringBuilder part = new StringBuilder();
        for (String token : tokens) {
            part.append(part.length() == 0 ? "" : " ").append(token);
            if (token.equals(";")) {
                good(part.toString(), part.length() == text.length() ? 2 : 1, 0);
            } else {
                bad(part.toString(), part.length());
                bad(part + " \n ", part.length() + 3);
            }
            bad(part + "!", part.length());
            bad(part + " \n ! ;", part.length() + 3);
        }
        bad(" ".repeat(9) + "add", 12);
        LessonPurses x = one();
        Check.feed(x, "add 77 if 1<23;");
        Check.due("the text is the first n bytes", x.wish(0, 13), -1);
        Check.due("its length", x.fault(), 13);
    }

    private static void numbers() {
        Check.about(9, "NUMBER: one to five digits;");
        good("add 0;add 9;add 10;add 99;add 100;add 999;", 6, 0 + 9 + 10 + 99 + 100 + 999);
        good("add 9999;add 10000;add 99999;add 00000;add 00007;", 5, 9999 + 10000 + 99999 + 7);
        Check.about(11, "(a NUMBER of more digits, the tenth open, too);");
        bad("add 100000;", 4);
        bad("add 000001;", 4);
        bad("add 1234567890123456789012345;", 4);
        bad("add 99999+999999;", 10);
        bad("never if 100000<1;", 9);
        bad("never if 1<100000;", 11);
        bad("add 123456", 4);
        bad("add 5 123456;", 6);
    }

    private static void behindHas() {
        Check.about(9, "behind \"has\" 0 to 9 (another one is a FAULT at it).");
        good("add has 0;", 1, 1);
        good("add has 1;", 1, 0);
        good("add has 9;add has 00009;add has 00000;", 3, 1);
        bad("add has 10;", 8);
        bad("add has 00010;", 8);
        bad("add has 99999;", 8);
        bad("add has 000000;", 8);
        bad("add 3*has 8+has 11;", 16);
        bad("add has  10;", 9);
        bad("never if has 10=1;", 13);
    }

    private static void tokensAsLongAsTheyGo() {
        Check.about(9, "Tokens as long as they go: words of letters a to z, digits, signs;");
        good("add7if1<2;never;", 2, 7);
        good("add has0+has1;", 1, 1);
        good("add 7 if not1>2and2=2or[not3<4];", 1, 7);
        good("add(7)+count*(hours)if(1)<2;", 1, 9);
        bad("addadd 7;", 0);
        bad("addhas 0;", 0);
        bad("add hascount;", 4);
        bad("add countif 1<2;", 4);
        bad("neverif 1<2;", 0);
        bad("add 7 ifnot 1<2;", 6);
        bad("never if 1<2 andnot 1<2;", 13);
        bad("add 12 34;", 7);
        bad("add 1 2;", 6);
        bad("ad d 7;", 0);
        bad("add co unt;", 4);
        bad("a", 0);
        bad("never if 1<=2;", 11);
    }

    /** Each word with one letter changed, one less, one more, and one great one. */
    private static void everyLetter() {
        Check.about(9, "Tokens as long as they go: words of letters a to z, digits, signs;");
        String[] texts = {
            "add 7;", "never;", "add 7 if 1<2;", "never if 1<2 or 1<2;", "never if 1<2 and 1<2;", "never if not 1<2;", "add has 1;",
            "add count;", "add hours;", "add first;", "add last;", "add gaps;", "add purse;"
        };
        String[] words = {"add", "never", "if", "or", "and", "not", "has", "count", "hours", "first", "last", "gaps", "purse"};
        for (int i = 0; i < words.length; i++) {
            String word = words[i];
            int place = texts[i].indexOf(word);
            Check.due(texts[i], Check.wish(one(), 0, texts[i]), 1);
            for (int at = 0; at < word.length(); at++) {
                bad(texts[i].replace(word, word.substring(0, at) + "z" + word.substring(at + 1)), place);
                bad(texts[i].replace(word, word.substring(0, at) + word.substring(at + 1)), place);
                bad(texts[i].replace(word, word.substring(0, at) + "z" + word.substring(at)), place);
                bad(texts[i].replace(word, word.substring(0, at) + (char) (word.charAt(at) - 32) + word.substring(at + 1)), place);
            }
            bad(texts[i].replace(word, word + "z"), place);
        }
    }

    /** Each byte between "add" and "5;": what it makes of the text. */
    private static void everyByte() {
        Check.about(9, "between them blanks (bytes 32 and 10).");
        for (int sign = 0; sign < 256; sign++) {
            LessonPurses x = one();
            boolean blank = sign == 32 || sign == 10;
            boolean digit = sign >= '0' && sign <= '9';
            boolean letter = sign >= 'a' && sign <= 'z';
            int place = blank || digit ? -1 : letter ? 0 : sign == '(' ? 5 : 3;
            Check.due("byte " + sign, Check.wish(x, 0, "add" + (char) sign + "5;"), place < 0 ? 1 : -1);
            Check.due("byte " + sign + ": fault", x.fault(), place);
            Check.due("byte " + sign + ": worth", x.worth(0, 0), blank ? 5 : digit ? 10 * (sign - '0') + 5 : 0);
        }
        good("\n\n add\n \n5\n;\n \n", 1, 5);
    }

    private static void nineOpen() {
        Check.about(9, "\"not\", \"(\", \"[\": at most 9 open in one another.");
        good("add " + "(".repeat(8) + "7" + ")".repeat(8) + ";", 1, 7);
        good("add " + "(".repeat(9) + "7" + ")".repeat(9) + ";", 1, 7);
        good("add 7 if " + "not ".repeat(8) + "1=1;", 1, 7);
        good("add 7 if " + "not ".repeat(9) + "1=1;", 1, 0);
        good("add 7 if " + "[".repeat(8) + "1=1" + "]".repeat(8) + ";", 1, 7);
        good("add 7 if " + "[".repeat(9) + "1=1" + "]".repeat(9) + ";", 1, 7);
        good("add 7 if " + "not[".repeat(4) + "(1)=(1)" + "]".repeat(4) + ";", 1, 7);
        good("add 7 if " + "not ".repeat(8) + "(1)=(1);", 1, 7);
        good("add 7 if " + "[".repeat(8) + "not 1=2 and not 1=2" + "]".repeat(8) + ";", 1, 7);
        good("add 7 if " + "[".repeat(8) + "[1=2] or [1=1]" + "]".repeat(8) + ";", 1, 7);
        Check.about(11, "(a NUMBER of more digits, the tenth open, too);");
        bad("add " + "(".repeat(10) + "7" + ")".repeat(10) + ";", 4 + 9);
        bad("add 1+" + "(".repeat(11) + "7" + ")".repeat(11) + ";", 6 + 9);
        bad("add 7 if " + "not ".repeat(10) + "1=1;", 9 + 36);
        bad("add 7 if " + "[".repeat(10) + "1=1" + "]".repeat(10) + ";", 9 + 9);
        bad("add 7 if " + "not ".repeat(9) + "(1)=1;", 9 + 36);
        bad("add 7 if " + "not ".repeat(9) + "1=(1);", 9 + 36 + 2);
        bad("add 7 if " + "not ".repeat(9) + "[1=1];", 9 + 36);
        bad("add 7 if " + "[".repeat(9) + "not 1=1" + "]".repeat(9) + ";", 9 + 9);
        bad("add 7 if " + "[".repeat(9) + "(1)=1" + "]".repeat(9) + ";", 9 + 9);
        bad("add 7 if " + "[".repeat(9) + "1=1 and 1=(1)" + "]".repeat(9) + ";", 9 + 9 + 10);
        bad("add 7 if " + "not[".repeat(4) + "1<((1))" + "]".repeat(4) + ";", 9 + 16 + 3);
        bad("add 7 if 1=" + "(".repeat(10) + "1" + ")".repeat(10) + ";", 11 + 9);
        Check.about(9, "\"not\", \"(\", \"[\": at most 9 open in one another.");
        String nine = "(".repeat(9) + "7" + ")".repeat(9);
        good("add " + nine + "*" + nine + "+" + nine + " if " + nine + "=" + nine + ";add " + nine + ";", 2, 49 + 7 + 7);
        good("add 7 if " + "not ".repeat(9) + "1=2 and " + "not ".repeat(9) + "1=2 or " + "[".repeat(9) + "1=2" + "]".repeat(9) + ";", 1, 7);
        good("add 7 if not 1=2 and " + nine + "=" + nine + ";", 1, 7);
        good("add 7 if [1=1] and " + nine + "=" + nine + ";", 1, 7);
    }

    private static void sixteenStatements() {
        Check.about(9, "At most 16 statements.");
        good("add 1;".repeat(15), 15, 15);
        good("add 1;".repeat(16), 16, 16);
        good("add 1;".repeat(8) + "never;".repeat(8), 16, 8);
        good("add 1;".repeat(16) + " \n ", 16, 16);
        bad("add 1;".repeat(17), 96);
        Check.about(11, "the 17th statement: where it begins.");
        bad("add 1;".repeat(16) + "never;", 96);
        bad("add 1;".repeat(16) + " \n never;", 99);
        bad("add 1;".repeat(16) + "  add", 98);
        bad("add 1;".repeat(16) + "add;", 96);
        bad("add 1;".repeat(16) + "add 5 if 5;", 96);
        bad("add 1;".repeat(16) + "?", 96);
        bad("add 1;".repeat(20), 96);
        bad("add 1;".repeat(15) + "add;add 1;", 93);
        bad("add 1;".repeat(15) + "add 1", 95);
    }
}
