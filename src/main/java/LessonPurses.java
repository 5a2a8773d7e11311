import java.util.Arrays;

/** Courses for all: few places, purses that are nearly alike, and prices at which each takes the best. */
public final class LessonPurses {
    public static final int NONE = -1;

    private static final int MAX_LESSONS = 10;
    private static final int MAX_PEOPLE = 8;
    private static final int BUNDLES = 1024;
    private static final int TAPE_BYTES = 400;
    private static final int MAX_PURSE = 200;
    private static final int MAX_PRICE = 250;
    private static final int MAX_STEP = 50;
    private static final int MAX_FIT = 60;
    private static final int MAX_WORTH = 1000000;
    private static final int WAYS = 6;
    private static final int HAND = 5;
    private static final int REFUSED = -2;
    private static final int NO_LESSON = -100;
    private static final int NO_WORTH = -2000000;
    private static final int NO_GAIN = -3000000;
    private static final int NO_SUM = -2000000000;

    private final Plan plan;
    private final Crowd crowd;
    private final Asker asker;
    private final Tape tape;
    private final Reader reader;
    private final Market market;
    private final Search search;
    private final Ways ways;
    private final Fairness fairness;
    private final Ending ending;
    private final Person liar;
    private boolean lieTold;
    private int faultPlace;

    public LessonPurses() {
        plan = new Plan();
        asker = new Asker(plan);
        crowd = new Crowd(asker);
        tape = new Tape();
        reader = new Reader(tape);
        market = new Market(plan, crowd);
        search = new Search(plan, market);
        ways = new Ways(plan, crowd, market);
        fairness = new Fairness(plan, crowd, ways);
        ending = new Ending(plan, crowd, ways);
        liar = new Person(0, 0);
        faultPlace = NONE;
    }

    public int lesson(int places, int from, int to) {
        int number = plan.addLesson(places, from, to);
        if (number != NONE) crowd.forgetAll();
        return number;
    }

    public boolean places(int lesson, int many) {
        if (!plan.isLesson(lesson) || many < 0 || many > 9) return false;
        plan.seats[lesson] = many;
        return true;
    }

    public int after(int lesson, int other) {
        int couples = plan.addCouple(lesson, other);
        if (couples != NONE) crowd.forgetAll();
        return couples;
    }

    public boolean most(int many) {
        if (many < 1 || many > 6) return false;
        plan.mostLessons = many;
        crowd.forgetAll();
        return true;
    }

    public int person(int purse, int done) {
        if (!isPurse(purse) || !isBundle(done)) return NONE;
        return crowd.add(purse, done);
    }

    public boolean purse(int person, int much) {
        if (!crowd.isPerson(person) || !isPurse(much)) return false;
        Person who = crowd.people[person];
        who.money = much;
        who.fresh = false;
        return true;
    }

    public int feed(int a, int b, int c, int d, int e) {
        if (tape.size + 20 > TAPE_BYTES) return NONE;
        tape.put(a);
        tape.put(b);
        tape.put(c);
        tape.put(d);
        tape.put(e);
        return tape.size;
    }

    public int wish(int person, int n) {
        if (!crowd.isPerson(person) || n < 0 || n > tape.size) return REFUSED;
        int statements = reader.read(n);
        faultPlace = reader.faultAt;
        if (statements != NONE) crowd.people[person].wishFor(reader.code, reader.size);
        return statements;
    }

    public int falsely(int n) {
        if (n < 0 || n > tape.size) return REFUSED;
        int statements = reader.read(n);
        faultPlace = reader.faultAt;
        if (statements != NONE) {
            liar.wishFor(reader.code, reader.size);
            lieTold = true;
        }
        return statements;
    }

    public int fault() {
        return faultPlace;
    }

    public int bars(int person, int bundle) {
        if (!crowd.isPerson(person) || !isBundle(bundle)) return NONE;
        asker.ask(crowd.people[person], bundle);
        return asker.bar;
    }

    public int worth(int person, int bundle) {
        if (!crowd.isPerson(person) || !isBundle(bundle)) return NO_WORTH;
        asker.ask(crowd.people[person], bundle);
        return asker.total;
    }

    public boolean price(int lesson, int much) {
        if (!plan.isLesson(lesson) || much < 0 || much > MAX_PRICE) return false;
        market.prices[lesson] = much;
        return true;
    }

    public boolean step(int much) {
        if (much < 1 || much > MAX_STEP) return false;
        market.stride = much;
        return true;
    }

    public int buys(int person, int what) {
        if (!crowd.isPerson(person) || what < 0 || what > 2) return NO_WORTH;
        Person who = crowd.freshened(person);
        market.mark(market.prices);
        int rank = market.pick(who, 0);
        if (what == 0) return who.bundleAt(rank);
        return what == 1 ? market.costOf(who.bundleAt(rank)) : who.worthAt(rank);
    }

    public int dear(int person) {
        if (!crowd.isPerson(person)) return REFUSED;
        Person who = crowd.freshened(person);
        market.mark(market.prices);
        int least = market.leastBetter(who, 0);
        return least == NONE ? NONE : least - who.money;
    }

    public int over(int lesson) {
        if (!plan.isLesson(lesson)) return NO_LESSON;
        crowd.freshenAll();
        market.squareAt(market.prices);
        return market.excess[lesson];
    }

    public int square() {
        crowd.freshenAll();
        return market.squareAt(market.prices);
    }

    public int fit(int n, int what) {
        boolean known = what == 0 || what == 1 || plan.isLesson(what - 10);
        if (n < 1 || n > MAX_FIT || !known) return NONE;
        crowd.freshenAll();
        search.run(n);
        if (what == 0) return search.bestSquare;
        return what == 1 ? search.went : search.best[what - 10];
    }

    public boolean settle(int n) {
        if (n < 1 || n > MAX_FIT) return false;
        crowd.freshenAll();
        search.run(n);
        System.arraycopy(search.best, 0, market.prices, 0, MAX_LESSONS);
        return true;
    }

    public int must(int by) {
        if (plan.size < 1 || plan.size > 3 || by < 1 || by > MAX_PRICE) return NONE;
        crowd.freshenAll();
        return search.leastSquare(by);
    }

    public int why(int person, int lesson, int what) {
        if (!crowd.isPerson(person) || !plan.isLesson(lesson) || what < 0 || what > 1) return NONE;
        Person who = crowd.freshened(person);
        market.mark(market.prices);
        int least = market.leastBetter(who, 1 << lesson);
        boolean bought = contains(who.bundleAt(market.pick(who, 0)), lesson);
        if (what == 1) return bought || least == NONE ? NONE : least - who.money;
        if (bought) return 0;
        if (!who.hasLawfulWith(1 << lesson)) return 1;
        return least == NONE ? 2 : 3;
    }

    public boolean give(int person, int bundle) {
        if (!crowd.isPerson(person) || !isBundle(bundle) || bundle >> plan.size != 0) return false;
        crowd.people[person].handed = bundle;
        return true;
    }

    public int has(int way, int person) {
        if (!isWay(way) || !crowd.isPerson(person)) return NONE;
        ways.run(way);
        return ways.held[person];
    }

    public int left(int way, int lesson) {
        if (!isWay(way) || !plan.isLesson(lesson)) return NO_LESSON;
        ways.run(way);
        return ways.spare[lesson];
    }

    public int sum(int way) {
        if (!isWay(way)) return NO_SUM;
        ways.run(way);
        int all = 0;
        for (int one = 0; one < crowd.size; one++) all += crowd.people[one].worths[ways.held[one]];
        return all;
    }

    public int envy(int way, int one, int other) {
        if (!isWay(way) || !crowd.isPerson(one) || !crowd.isPerson(other) || one == other) return NONE;
        ways.run(way);
        return fairness.envyOf(one, other);
    }

    public int envies(int way, int much) {
        if (!isWay(way) || much < 1 || much > 2) return NONE;
        ways.run(way);
        int couples = 0;
        for (int one = 0; one < crowd.size; one++) {
            for (int other = 0; other < crowd.size; other++) {
                if (one != other && fairness.envyOf(one, other) >= much) couples++;
            }
        }
        return couples;
    }

    public int waste(int way, int what) {
        if (!isWay(way) || what < 0 || what > 3) return NONE;
        ways.run(way);
        return fairness.findWaste() ? fairness.swap[what] : NONE;
    }

    public int share(int person) {
        if (!crowd.isPerson(person) || crowd.size > 3 || plan.size > 6) return NO_WORTH;
        return fairness.shareOf(crowd.freshened(person));
    }

    public int gain(int way, int person) {
        if (way < 1 || way >= HAND || !crowd.isPerson(person) || !lieTold) return NO_GAIN;
        ways.run(way);
        int honest = ways.held[person];
        Person own = crowd.people[person];
        liar.standFor(own);
        crowd.people[person] = liar;
        ways.run(way);
        crowd.people[person] = own;
        return own.worths[ways.held[person]] - own.worths[honest];
    }

    public int rank(int way, int person) {
        if (!isWay(way) || !crowd.isPerson(person)) return NONE;
        ways.run(way);
        Person who = crowd.people[person];
        return who.betterThan(who.worths[ways.held[person]]);
    }

    public int ties(int person) {
        if (!crowd.isPerson(person)) return NONE;
        Person who = crowd.freshened(person);
        market.mark(market.prices);
        return market.alike(who);
    }

    public int edge(int person, int lesson) {
        if (!crowd.isPerson(person) || !plan.isLesson(lesson)) return NONE;
        return search.edgeOf(crowd.freshened(person), lesson);
    }

    public int few(int way, int lesson, int what) {
        boolean known = what == 0 || crowd.isPerson(what - 10);
        if (!isWay(way) || !plan.isLesson(lesson) || !known) return NONE;
        ways.run(way);
        if (!ending.find(lesson)) return NONE;
        return what == 0 ? ending.moved : ending.then[what - 10];
    }

    public int judge() {
        for (int one = 0; one < crowd.size; one++) {
            Person who = crowd.people[one];
            asker.ask(who, who.handed);
            if (asker.bar != 0) return 10 * one + asker.bar;
        }
        ways.run(HAND);
        for (int lesson = 0; lesson < plan.size; lesson++) {
            if (ways.spare[lesson] < 0) return 1000 + lesson;
        }
        return NONE;
    }

    public int count(int what) {
        switch (what) {
            case 0: return plan.size;
            case 1: return crowd.size;
            case 2: return plan.couples;
            case 3: return plan.mostLessons;
            case 4: return market.stride;
            case 5: return tape.size;
            case 6: return total(plan.seats);
            case 7: return total(market.prices);
            case 8: return crowd.allMoney();
            case 9: return lieTold ? 1 : 0;
            default: return NONE;
        }
    }

    private static boolean isPurse(int much) {
        return much >= 0 && much <= MAX_PURSE;
    }

    private static boolean isBundle(int bits) {
        return bits >= 0 && bits < BUNDLES;
    }

    private static boolean isWay(int way) {
        return way >= 0 && way < WAYS;
    }

    private static boolean contains(int bundle, int lesson) {
        return (bundle >> lesson & 1) != 0;
    }

    private static int total(int[] row) {
        int all = 0;
        for (int i = 0; i < row.length; i++) all += row[i];
        return all;
    }

    /** The lessons, and what bars a bundle by them alone. */
    private static final class Plan {
        private static final int MAX_COUPLES = 20;

        int size;
        int mostLessons = 4;
        int couples;
        final int[] seats = new int[MAX_LESSONS];
        final int[] begin = new int[MAX_LESSONS];
        final int[] end = new int[MAX_LESSONS];
        /** For each lesson the bits of those that clash with it. */
        private final int[] clashing = new int[MAX_LESSONS];
        /** For each lesson the bits of those that it comes after. */
        private final int[] earlier = new int[MAX_LESSONS];

        boolean isLesson(int number) {
            return number >= 0 && number < size;
        }

        int addLesson(int many, int from, int to) {
            if (size >= MAX_LESSONS || many < 0 || many > 9) return NONE;
            if (from < 0 || from > 39 || to <= from || to > 40) return NONE;
            for (int other = 0; other < size; other++) {
                if (from < end[other] && begin[other] < to) {
                    clashing[other] |= 1 << size;
                    clashing[size] |= 1 << other;
                }
            }
            seats[size] = many;
            begin[size] = from;
            end[size] = to;
            size++;
            return size - 1;
        }

        int addCouple(int later, int sooner) {
            if (!isLesson(later) || !isLesson(sooner) || later == sooner) return NONE;
            if (couples >= MAX_COUPLES || contains(earlier[later], sooner)) return NONE;
            earlier[later] |= 1 << sooner;
            couples++;
            return couples;
        }

        /** What bars a bundle, from 1 to 4; 0 if it's for the wishes to say. */
        int barOf(int bundle, int done) {
            if (bundle >> size != 0) return 1;
            if (Integer.bitCount(bundle) > mostLessons) return 2;
            boolean lacks = false;
            for (int lesson = 0; lesson < size; lesson++) {
                if (contains(bundle, lesson)) {
                    if ((clashing[lesson] & bundle) != 0) return 3;
                    if ((earlier[lesson] & ~(bundle | done)) != 0) lacks = true;
                }
            }
            return lacks ? 4 : 0;
        }
    }

    /** Bytes that wait to be read as wishes, and the tokens that they are cut into. */
    private static final class Tape {
        /** Five signs for each word; the kind of a word is its place here, from 1. */
        private static final String WORDS = "add  neverif   or   and  not  has  counthoursfirstlast gaps purse";
        private static final int WORD_SIGNS = 5;
        private static final String SIGNS = ";+-*/()[]<>=";
        private static final int MAX_DIGITS = 5;

        static final int ADD = 1;
        static final int NEVER = 2;
        static final int IF = 3;
        static final int OR = 4;
        static final int AND = 5;
        static final int NOT = 6;
        static final int HAS = 7;
        static final int COUNT = 8;
        static final int HOURS = 9;
        static final int FIRST = 10;
        static final int LAST = 11;
        static final int GAPS = 12;
        static final int PURSE = 13;
        /** A sign's kind is its byte, so these lie above all bytes. */
        static final int NUMBER = 256;
        static final int BAD = 257;
        static final int END = 258;

        int size;
        private final int[] bytes = new int[TAPE_BYTES];
        private int tokens;
        final int[] kinds = new int[TAPE_BYTES + 1];
        final int[] starts = new int[TAPE_BYTES + 1];
        final int[] values = new int[TAPE_BYTES + 1];

        void put(int four) {
            for (int shift = 24; shift >= 0; shift -= 8) {
                if (size < TAPE_BYTES) {
                    bytes[size] = four >> shift & 255;
                    size++;
                }
            }
        }

        /** Tokens of the first n bytes, an END behind them; the tape is empty then. */
        void cut(int n) {
            tokens = 0;
            int length = Math.min(n, size);
            int at = 0;
            while (at < length) {
                int behind = at + 1;
                if (isLetter(bytes[at])) {
                    while (behind < length && isLetter(bytes[behind])) behind++;
                    token(wordKind(at, behind), at, 0);
                } else if (isDigit(bytes[at])) {
                    while (behind < length && isDigit(bytes[behind])) behind++;
                    token(behind - at > MAX_DIGITS ? BAD : NUMBER, at, numberOf(at, behind));
                } else if (bytes[at] != ' ' && bytes[at] != '\n') {
                    token(SIGNS.indexOf((char) bytes[at]) >= 0 ? bytes[at] : BAD, at, 0);
                }
                at = behind;
            }
            token(END, length, 0);
            size = 0;
        }

        private void token(int kind, int start, int value) {
            if (tokens > TAPE_BYTES) return;
            kinds[tokens] = kind;
            starts[tokens] = start;
            values[tokens] = value;
            tokens++;
        }

        private int wordKind(int from, int to) {
            if (to - from > WORD_SIGNS) return BAD;
            for (int kind = ADD; kind <= PURSE; kind++) {
                if (isWord(kind, from, to)) return kind;
            }
            return BAD;
        }

        private boolean isWord(int kind, int from, int to) {
            for (int i = 0; i < WORD_SIGNS; i++) {
                int there = from + i < to ? bytes[from + i] : ' ';
                if (there != WORDS.charAt((kind - 1) * WORD_SIGNS + i)) return false;
            }
            return true;
        }

        private int numberOf(int from, int to) {
            int number = 0;
            for (int at = from; at < to && at < from + MAX_DIGITS; at++) number = number * 10 + bytes[at] - '0';
            return number;
        }

        private static boolean isLetter(int sign) {
            return sign >= 'a' && sign <= 'z';
        }

        private static boolean isDigit(int sign) {
            return sign >= '0' && sign <= '9';
        }
    }

    /**
     * Turns tokens into code for a stack: a number stands for itself, minus a kind for what is
     * done with what lies there. Every statement has a condition there, 1 where the text has none.
     */
    private static final class Reader {
        private static final int MAX_STATEMENTS = 16;
        private static final int MAX_OPEN = 9;

        private final Tape tape;
        private int at;
        final int[] code = new int[TAPE_BYTES];
        int size;
        int faultAt = NONE;

        Reader(Tape tape) {
            this.tape = tape;
        }

        /** How many statements the first n bytes of the tape are; NONE: a fault. */
        int read(int n) {
            tape.cut(n);
            at = 0;
            size = 0;
            int statements = 0;
            while (statements < MAX_STATEMENTS && kind() != Tape.END) {
                if (!statement()) return failed();
                statements++;
            }
            if (kind() != Tape.END) return failed();
            faultAt = NONE;
            return statements;
        }

        private int failed() {
            faultAt = tape.starts[at];
            return NONE;
        }

        private int kind() {
            return tape.kinds[at];
        }

        /** Goes behind a token of this kind, if it's there; END is never passed. */
        private boolean take(int wanted) {
            if (tape.kinds[at] != wanted || at >= TAPE_BYTES) return false;
            at++;
            return true;
        }

        private void emit(int part) {
            if (size >= TAPE_BYTES) return;
            code[size] = part;
            size++;
        }

        private boolean statement() {
            int start = kind();
            if (start != Tape.ADD && start != Tape.NEVER) return false;
            take(start);
            if (start == Tape.ADD && !expression(0)) return false;
            if (take(Tape.IF)) {
                if (!anyOf(0)) return false;
            } else {
                emit(1);
            }
            if (!take(';')) return false;
            emit(-start);
            return true;
        }

        /** ANY and ALL in one: an "and" waits for its right side only, an "or" for all that "and" joins. */
        private boolean anyOf(int open) {
            boolean and = false;
            boolean or = false;
            for (int i = 0; i < TAPE_BYTES; i++) {
                if (!oneOf(open)) return false;
                if (and) emit(-Tape.AND);
                and = take(Tape.AND);
                if (!and) {
                    if (or) emit(-Tape.OR);
                    or = take(Tape.OR);
                    if (!or) return true;
                }
            }
            return false;
        }

        private boolean oneOf(int open) {
            int start = kind();
            if (start == Tape.NOT || start == '[') {
                if (open >= MAX_OPEN) return false;
                take(start);
                if (start == '[') return anyOf(open + 1) && take(']');
                if (!oneOf(open + 1)) return false;
                emit(-Tape.NOT);
                return true;
            }
            if (!expression(open)) return false;
            int sign = kind();
            if (sign != '<' && sign != '>' && sign != '=') return false;
            take(sign);
            if (!expression(open)) return false;
            emit(-sign);
            return true;
        }

        /** EX and PROD in one: "*" and "/" wait for one atom, "+" and "-" for a whole product. */
        private boolean expression(int open) {
            int times = 0;
            int plus = 0;
            for (int i = 0; i < TAPE_BYTES; i++) {
                if (!atom(open)) return false;
                if (times != 0) emit(-times);
                times = takeEither('*', '/');
                if (times == 0) {
                    if (plus != 0) emit(-plus);
                    plus = takeEither('+', '-');
                    if (plus == 0) return true;
                }
            }
            return false;
        }

        private int takeEither(int one, int other) {
            int there = kind();
            if (there != one && there != other) return 0;
            return take(there) ? there : 0;
        }

        private boolean atom(int open) {
            int start = kind();
            if (start == Tape.NUMBER) {
                emit(tape.values[at]);
                return take(start);
            }
            if (start >= Tape.COUNT && start <= Tape.PURSE) {
                emit(-start);
                return take(start);
            }
            if (start == Tape.HAS) {
                take(start);
                if (kind() != Tape.NUMBER || tape.values[at] >= MAX_LESSONS) return false;
                emit(tape.values[at]);
                emit(-Tape.HAS);
                return take(Tape.NUMBER);
            }
            if (start != '(' || open >= MAX_OPEN) return false;
            take(start);
            return expression(open + 1) && take(')');
        }
    }

    /** Asks somebody's wishes about a bundle. */
    private static final class Asker {
        private static final int HELD = 1000000000;
        /** Nine open ones leave at most two values each to wait, and some few beside them. */
        private static final int STACK = 64;

        final Plan plan;
        int total;
        int bar;
        private final int[] stack = new int[STACK];
        private int top;
        private boolean never;
        private int bundle;
        private int money;
        private int hours;
        private int first;
        private int last;

        Asker(Plan plan) {
            this.plan = plan;
        }

        /** Finds the bundle's worth (total), and what bars it (bar). */
        void ask(Person who, int asked) {
            lookAt(asked);
            money = who.money;
            total = 0;
            top = 0;
            never = false;
            for (int i = 0; i < who.codeSize; i++) {
                int part = who.code[i];
                if (part >= 0) push(part);
                else apply(-part);
            }
            bar = plan.barOf(asked, who.done);
            if (bar == 0 && never) bar = 5;
        }

        private void lookAt(int asked) {
            bundle = asked;
            hours = 0;
            first = 0;
            last = 0;
            for (int lesson = 0; lesson < plan.size; lesson++) {
                if (contains(asked, lesson)) {
                    if (hours == 0 || plan.begin[lesson] < first) first = plan.begin[lesson];
                    last = Math.max(last, plan.end[lesson]);
                    hours += plan.end[lesson] - plan.begin[lesson];
                }
            }
        }

        private void push(int value) {
            if (top >= STACK) return;
            stack[top] = value;
            top++;
        }

        private int pop() {
            if (top <= 0) return 0;
            top--;
            return stack[top];
        }

        private void apply(int kind) {
            switch (kind) {
                case Tape.ADD: addIf(pop() != 0, pop()); break;
                case Tape.NEVER: if (pop() != 0) never = true; break;
                case Tape.HAS: push(contains(bundle, pop()) ? 1 : 0); break;
                case Tape.NOT: push(1 - pop()); break;
                case Tape.COUNT: push(Integer.bitCount(bundle)); break;
                case Tape.HOURS: push(hours); break;
                case Tape.FIRST: push(first); break;
                case Tape.LAST: push(last); break;
                case Tape.GAPS: push(last - first - hours); break;
                case Tape.PURSE: push(money); break;
                default: joinTwo(kind, pop(), pop()); break;
            }
        }

        private void addIf(boolean holds, int value) {
            if (holds) total = Math.max(-MAX_WORTH, Math.min(MAX_WORTH, total + value));
        }

        private void joinTwo(int kind, int right, int left) {
            long joined;
            switch (kind) {
                case '+': joined = (long) left + right; break;
                case '-': joined = (long) left - right; break;
                case '*': joined = (long) left * right; break;
                case '/': joined = right == 0 ? 0 : left / right; break;
                case '<': joined = left < right ? 1 : 0; break;
                case '>': joined = left > right ? 1 : 0; break;
                case '=': joined = left == right ? 1 : 0; break;
                case Tape.AND: joined = left & right; break;
                default: joined = left | right; break;
            }
            push((int) Math.max(-HELD, Math.min(HELD, joined)));
        }
    }

    /** One of the people; what they think of each bundle is kept till something that it hangs on changes. */
    private static final class Person {
        /** Steps of the shell sort. */
        private static final int[] STRIDES = {701, 301, 132, 57, 23, 10, 4, 1};

        int money;
        int done;
        int handed;
        final int[] code = new int[TAPE_BYTES];
        int codeSize;
        boolean fresh;
        final int[] worths = new int[BUNDLES];
        final boolean[] lawful = new boolean[BUNDLES];
        int ranks;
        /** Lawful bundles, the most worth first, then the least bits: (MAX_WORTH - worth) * BUNDLES + bits. */
        private final int[] ranked = new int[BUNDLES];

        Person(int money, int done) {
            this.money = money;
            this.done = done;
        }

        void wishFor(int[] text, int size) {
            codeSize = Math.min(size, TAPE_BYTES);
            System.arraycopy(text, 0, code, 0, codeSize);
            fresh = false;
        }

        /** Takes the place of another one, with wishes of its own. */
        void standFor(Person other) {
            money = other.money;
            done = other.done;
            fresh = false;
        }

        void freshen(Asker asker) {
            if (fresh) return;
            ranks = 0;
            int bundles = 1 << asker.plan.size;
            for (int bundle = 0; bundle < bundles && bundle < BUNDLES; bundle++) {
                asker.ask(this, bundle);
                worths[bundle] = asker.total;
                lawful[bundle] = asker.bar == 0;
                if (asker.bar == 0) {
                    ranked[ranks] = (MAX_WORTH - asker.total) * BUNDLES + bundle;
                    ranks++;
                }
            }
            sortRanked();
            fresh = true;
        }

        private void sortRanked() {
            for (int s = 0; s < STRIDES.length; s++) {
                int stride = STRIDES[s];
                for (int i = stride; i < ranks; i++) {
                    int moved = ranked[i];
                    int to = i;
                    while (to >= stride && ranked[to - stride] > moved) {
                        ranked[to] = ranked[to - stride];
                        to -= stride;
                    }
                    ranked[to] = moved;
                }
            }
        }

        /** The bundle at a rank; without one: none. */
        int bundleAt(int rank) {
            return rank < 0 || rank >= ranks ? 0 : ranked[rank] & BUNDLES - 1;
        }

        /** The worth at a rank; without one: 0. */
        int worthAt(int rank) {
            return rank < 0 || rank >= ranks ? 0 : MAX_WORTH - ranked[rank] / BUNDLES;
        }

        /** Rank of the best lawful bundle of these lessons alone; NONE: none. */
        int rankWithin(int allowed) {
            for (int rank = 0; rank < ranks; rank++) {
                if ((ranked[rank] & BUNDLES - 1 & ~allowed) == 0) return rank;
            }
            return NONE;
        }

        boolean hasLawfulWith(int wanted) {
            for (int rank = 0; rank < ranks; rank++) {
                if ((ranked[rank] & wanted) == wanted) return true;
            }
            return false;
        }

        /** How many lawful bundles are of more worth. */
        int betterThan(int worth) {
            for (int rank = 0; rank < ranks; rank++) {
                if (worthAt(rank) <= worth) return rank;
            }
            return ranks;
        }
    }

    /** All the people. */
    private static final class Crowd {
        private final Asker asker;
        final Person[] people = new Person[MAX_PEOPLE];
        int size;

        Crowd(Asker asker) {
            this.asker = asker;
        }

        boolean isPerson(int number) {
            return number >= 0 && number < size;
        }

        int add(int money, int done) {
            if (size >= MAX_PEOPLE) return NONE;
            people[size] = new Person(money, done);
            size++;
            return size - 1;
        }

        void forgetAll() {
            for (int one = 0; one < size; one++) people[one].fresh = false;
        }

        Person freshened(int number) {
            people[number].freshen(asker);
            return people[number];
        }

        void freshenAll() {
            for (int one = 0; one < size; one++) people[one].freshen(asker);
        }

        int allMoney() {
            int all = 0;
            for (int one = 0; one < size; one++) all += people[one].money;
            return all;
        }
    }

    /** Prices, and what is bought at them. */
    private static final class Market {
        private static final int HALF = 5;
        private static final int HALF_BUNDLES = 32;

        private final Plan plan;
        private final Crowd crowd;
        final int[] prices = new int[MAX_LESSONS];
        int stride = 5;
        final int[] excess = new int[MAX_LESSONS];
        /** The first rank that could be paid when somebody picked last; all before it are too dear. */
        int firstPaid;
        /** Prices together of each bundle of the first five lessons, and of the last five. */
        private final int[] lowCosts = new int[HALF_BUNDLES];
        private final int[] highCosts = new int[HALF_BUNDLES];

        Market(Plan plan, Crowd crowd) {
            this.plan = plan;
            this.crowd = crowd;
        }

        /** From now on all costs are those of this row of prices. */
        void mark(int[] row) {
            for (int lesson = 0; lesson < HALF; lesson++) {
                int bit = 1 << lesson;
                for (int below = 0; below < bit; below++) {
                    lowCosts[bit + below] = lowCosts[below] + row[lesson];
                    highCosts[bit + below] = highCosts[below] + row[HALF + lesson];
                }
            }
        }

        int costOf(int bundle) {
            return lowCosts[bundle & HALF_BUNDLES - 1] + highCosts[bundle >> HALF & HALF_BUNDLES - 1];
        }

        /**
         * Rank of what somebody buys; NONE: nothing lawful can be paid. All that ranks before start is known
         * to be too dear.
         */
        int pick(Person who, int start) {
            int found = NONE;
            int least = 0;
            firstPaid = who.ranks;
            for (int rank = start; rank < who.ranks; rank++) {
                if (found != NONE && who.worthAt(rank) < who.worthAt(found)) return found;
                int cost = costOf(who.bundleAt(rank));
                if (cost <= who.money && (found == NONE || cost < least)) {
                    if (found == NONE) firstPaid = rank;
                    found = rank;
                    least = cost;
                }
            }
            return found;
        }

        /** The least cost of what has these lessons and is of more worth than what is bought; NONE: none. */
        int leastBetter(Person who, int wanted) {
            int better = who.betterThan(who.worthAt(pick(who, 0)));
            int least = NONE;
            for (int rank = 0; rank < better; rank++) {
                int bundle = who.bundleAt(rank);
                if ((bundle & wanted) == wanted && (least == NONE || costOf(bundle) < least)) least = costOf(bundle);
            }
            return least;
        }

        /** How many others of just the worth of what is bought could be paid; NONE: nothing can. */
        int alike(Person who) {
            int found = pick(who, 0);
            if (found == NONE) return NONE;
            int others = 0;
            for (int rank = 0; rank < who.ranks; rank++) {
                boolean same = rank != found && who.worthAt(rank) == who.worthAt(found);
                if (same && costOf(who.bundleAt(rank)) <= who.money) others++;
            }
            return others;
        }

        /** Finds by how much each lesson is over at a row of prices: the squares together. */
        int squareAt(int[] row) {
            mark(row);
            for (int lesson = 0; lesson < plan.size; lesson++) excess[lesson] = -plan.seats[lesson];
            for (int one = 0; one < crowd.size; one++) {
                Person who = crowd.people[one];
                int bundle = who.bundleAt(pick(who, 0));
                for (int lesson = 0; lesson < plan.size; lesson++) {
                    if (contains(bundle, lesson)) excess[lesson]++;
                }
            }
            int squares = 0;
            for (int lesson = 0; lesson < plan.size; lesson++) {
                if (excess[lesson] < 0 && row[lesson] == 0) excess[lesson] = 0;
                squares += excess[lesson] * excess[lesson];
            }
            return squares;
        }
    }

    /** Looks for prices: by steps, among all of a kind, and for one lesson alone. */
    private static final class Search {
        private static final int KEPT = 8;
        private static final int MAX_MULTIPLES = 20;

        private final Plan plan;
        private final Market market;
        final int[] best = new int[MAX_LESSONS];
        int bestSquare;
        int went;
        private final int[] now = new int[MAX_LESSONS];
        private final int[] nowOver = new int[MAX_LESSONS];
        private final int[] trial = new int[MAX_LESSONS];
        private final int[] chosen = new int[MAX_LESSONS];
        private int chosenSquare;
        /** The last rows gone to, in turns. */
        private final int[][] gone = new int[KEPT][MAX_LESSONS];

        Search(Plan plan, Market market) {
            this.plan = plan;
            this.market = market;
        }

        void run(int n) {
            went = 0;
            copy(market.prices, now);
            copy(now, gone[0]);
            copy(now, best);
            bestSquare = market.squareAt(now);
            for (int i = 0; i < n; i++) {
                if (!goOn()) return;
            }
        }

        private boolean goOn() {
            market.squareAt(now);
            copy(market.excess, nowOver);
            chosenSquare = NONE;
            for (int lesson = 0; lesson < plan.size; lesson++) {
                if (nowOver[lesson] != 0) {
                    copy(now, trial);
                    change(lesson, nowOver[lesson] > 0 ? 1 : -1);
                    consider();
                }
            }
            copy(now, trial);
            for (int lesson = 0; lesson < plan.size; lesson++) change(lesson, nowOver[lesson]);
            consider();
            if (chosenSquare == NONE) return false;
            goToChosen();
            return true;
        }

        private void change(int lesson, int strides) {
            int much = now[lesson] + strides * market.stride;
            trial[lesson] = Math.max(0, Math.min(MAX_PRICE, much));
        }

        private void consider() {
            if (isGone()) return;
            int squares = market.squareAt(trial);
            if (chosenSquare == NONE || squares < chosenSquare) {
                chosenSquare = squares;
                copy(trial, chosen);
            }
        }

        private boolean isGone() {
            for (int i = 0; i < KEPT && i <= went; i++) {
                if (isTrial(gone[i])) return true;
            }
            return false;
        }

        private boolean isTrial(int[] row) {
            for (int lesson = 0; lesson < plan.size; lesson++) {
                if (row[lesson] != trial[lesson]) return false;
            }
            return true;
        }

        private void goToChosen() {
            went++;
            copy(chosen, now);
            copy(chosen, gone[went % KEPT]);
            if (chosenSquare < bestSquare) {
                bestSquare = chosenSquare;
                copy(chosen, best);
            }
        }

        /** The least square at prices that are multiples of a number (not 0), for at most three lessons. */
        int leastSquare(int by) {
            int multiples = Math.min(MAX_MULTIPLES, MAX_PRICE / Math.max(1, by) + 1);
            int rows = 1;
            for (int lesson = 0; lesson < plan.size; lesson++) rows *= multiples;
            int least = NONE;
            for (int row = 0; row < rows; row++) {
                int rest = row;
                for (int lesson = 0; lesson < plan.size; lesson++) {
                    trial[lesson] = rest % multiples * by;
                    rest /= multiples;
                }
                int squares = market.squareAt(trial);
                if (least == NONE || squares < least) least = squares;
            }
            return least;
        }

        /** The least price of a lesson at which somebody doesn't buy it. */
        int edgeOf(Person who, int lesson) {
            copy(market.prices, trial);
            for (int much = 0; much <= MAX_PRICE; much++) {
                trial[lesson] = much;
                market.mark(trial);
                if (!contains(who.bundleAt(market.pick(who, 0)), lesson)) return much;
            }
            return NONE;
        }

        private static void copy(int[] from, int[] to) {
            System.arraycopy(from, 0, to, 0, MAX_LESSONS);
        }
    }

    /** Who has what, by prices and in the old ways. */
    private static final class Ways {
        /** A price that anybody pays is no more than a purse, so each lesson's grows this often at most. */
        private static final int MAX_RAISES = MAX_LESSONS * (MAX_PURSE + 1);
        private static final int COUPLES = MAX_PEOPLE * MAX_LESSONS;

        private final Plan plan;
        private final Crowd crowd;
        private final Market market;
        final int[] held = new int[MAX_PEOPLE];
        final int[] spare = new int[MAX_LESSONS];
        private final int[] row = new int[MAX_LESSONS];
        /** While prices grow: for each the ranks below this are too dear, and stay so. */
        private final int[] starts = new int[MAX_PEOPLE];
        private final int[] bids = new int[COUPLES];

        Ways(Plan plan, Crowd crowd, Market market) {
            this.plan = plan;
            this.crowd = crowd;
            this.market = market;
        }

        /** Finds what each has in a way (held), and what is left of each lesson (spare). */
        void run(int way) {
            crowd.freshenAll();
            Arrays.fill(held, 0);
            countSpare();
            switch (way) {
                case 0: byPrices(); break;
                case 1: mended(); break;
                case 2: byTurns(); break;
                case 3: byBids(); break;
                case 4: oneAfterAnother(); break;
                default: byHand(); break;
            }
        }

        private void countSpare() {
            for (int lesson = 0; lesson < plan.size; lesson++) {
                spare[lesson] = plan.seats[lesson];
                for (int one = 0; one < crowd.size; one++) {
                    if (contains(held[one], lesson)) spare[lesson]--;
                }
            }
        }

        private void byPrices() {
            market.mark(market.prices);
            Arrays.fill(starts, 0);
            for (int one = 0; one < crowd.size; one++) buyFor(one);
            countSpare();
        }

        private void buyFor(int one) {
            Person who = crowd.people[one];
            held[one] = who.bundleAt(market.pick(who, starts[one]));
            starts[one] = market.firstPaid;
        }

        private void mended() {
            byPrices();
            System.arraycopy(market.prices, 0, row, 0, MAX_LESSONS);
            for (int i = 0; i < MAX_RAISES; i++) {
                int fullest = fullest();
                if (fullest == NONE) break;
                raise(fullest);
            }
            for (int i = 0; i <= COUPLES; i++) {
                if (!roundOfAdding(true)) return;
            }
        }

        /** The lesson that is most over its places; NONE: none is. */
        private int fullest() {
            int found = NONE;
            for (int lesson = 0; lesson < plan.size; lesson++) {
                if (spare[lesson] < 0 && (found == NONE || spare[lesson] < spare[found])) found = lesson;
            }
            return found;
        }

        /** Those without the lesson go on with what they have: all else is only dearer. */
        private void raise(int lesson) {
            row[lesson] += market.stride;
            market.mark(row);
            for (int one = 0; one < crowd.size; one++) {
                if (contains(held[one], lesson)) buyFor(one);
            }
            countSpare();
        }

        private void byTurns() {
            boolean forth = true;
            for (int i = 0; i <= COUPLES; i++) {
                if (!roundOfAdding(forth)) return;
                forth = !forth;
            }
        }

        private boolean roundOfAdding(boolean forth) {
            boolean added = false;
            for (int i = 0; i < crowd.size; i++) {
                if (addFor(forth ? i : crowd.size - 1 - i)) added = true;
            }
            return added;
        }

        private boolean addFor(int one) {
            Person who = crowd.people[one];
            int most = who.worths[held[one]];
            int found = NONE;
            for (int lesson = 0; lesson < plan.size; lesson++) {
                int with = held[one] | 1 << lesson;
                if (canTake(one, lesson) && who.worths[with] > most) {
                    most = who.worths[with];
                    found = lesson;
                }
            }
            if (found == NONE) return false;
            take(one, 1 << found);
            return true;
        }

        private boolean canTake(int one, int lesson) {
            boolean free = spare[lesson] > 0 && !contains(held[one], lesson);
            return free && crowd.people[one].lawful[held[one] | 1 << lesson];
        }

        private void take(int one, int bundle) {
            held[one] |= bundle;
            for (int lesson = 0; lesson < plan.size; lesson++) {
                if (contains(bundle, lesson)) spare[lesson]--;
            }
        }

        private void byBids() {
            fillBids();
            for (int i = 0; i < COUPLES; i++) {
                int highest = 0;
                for (int couple = 1; couple < COUPLES; couple++) {
                    if (bids[couple] > bids[highest]) highest = couple;
                }
                if (bids[highest] <= 0) return;
                bids[highest] = 0;
                int one = highest / MAX_LESSONS;
                int lesson = highest % MAX_LESSONS;
                if (canTake(one, lesson)) take(one, 1 << lesson);
            }
        }

        private void fillBids() {
            Arrays.fill(bids, 0);
            for (int one = 0; one < crowd.size; one++) {
                int[] worths = crowd.people[one].worths;
                for (int lesson = 0; lesson < plan.size; lesson++) {
                    bids[one * MAX_LESSONS + lesson] = worths[1 << lesson] - worths[0];
                }
            }
        }

        private void oneAfterAnother() {
            for (int one = 0; one < crowd.size; one++) {
                Person who = crowd.people[one];
                take(one, who.bundleAt(who.rankWithin(openLessons())));
            }
        }

        private int openLessons() {
            int open = 0;
            for (int lesson = 0; lesson < plan.size; lesson++) {
                if (spare[lesson] > 0) open |= 1 << lesson;
            }
            return open;
        }

        private void byHand() {
            for (int one = 0; one < crowd.size; one++) held[one] = crowd.people[one].handed;
            countSpare();
        }
    }

    /** Envy and waste in the way that was run last, and what each could make sure of. */
    private static final class Fairness {
        private static final int NOTHING = 10;

        private final Plan plan;
        private final Crowd crowd;
        private final Ways ways;
        /** The lesser person, the greater, what the lesser gives, what the greater gives. */
        final int[] swap = new int[4];

        Fairness(Plan plan, Crowd crowd, Ways ways) {
            this.plan = plan;
            this.crowd = crowd;
            this.ways = ways;
        }

        int envyOf(int one, int other) {
            Person who = crowd.people[one];
            int own = who.worths[ways.held[one]];
            int theirs = ways.held[other];
            if (!isBetter(who, theirs, own)) return 0;
            for (int lesson = 0; lesson < plan.size; lesson++) {
                if (contains(theirs, lesson) && !isBetter(who, theirs & ~(1 << lesson), own)) return 1;
            }
            return 2;
        }

        private static boolean isBetter(Person who, int bundle, int own) {
            return who.lawful[bundle] && who.worths[bundle] > own;
        }

        boolean findWaste() {
            for (int lesser = 0; lesser < crowd.size; lesser++) {
                for (int greater = lesser + 1; greater < crowd.size; greater++) {
                    if (findSwap(lesser, greater)) return true;
                }
            }
            return false;
        }

        private boolean findSwap(int lesser, int greater) {
            for (int given = 0; given <= NOTHING; given++) {
                for (int taken = 0; taken <= NOTHING; taken++) {
                    if (betters(lesser, greater, bitOf(given), bitOf(taken))) {
                        swap[0] = lesser;
                        swap[1] = greater;
                        swap[2] = given;
                        swap[3] = taken;
                        return true;
                    }
                }
            }
            return false;
        }

        private static int bitOf(int lesson) {
            return lesson == NOTHING ? 0 : 1 << lesson;
        }

        private boolean betters(int lesser, int greater, int given, int taken) {
            int mine = ways.held[lesser];
            int theirs = ways.held[greater];
            boolean owned = (given & mine) == given && (taken & theirs) == taken;
            boolean foreign = (given & theirs) == 0 && (taken & mine) == 0;
            if (!owned || !foreign || (given | taken) == 0) return false;
            int less = growth(crowd.people[lesser], mine, mine & ~given | taken);
            int great = growth(crowd.people[greater], theirs, theirs & ~taken | given);
            return less >= 0 && great >= 0 && less + great > 0;
        }

        /** By how much the new bundle is of more worth than the old one; below 0 if it isn't lawful. */
        private static int growth(Person who, int old, int changed) {
            return who.lawful[changed] ? who.worths[changed] - who.worths[old] : NONE;
        }

        int shareOf(Person who) {
            int heaps = crowd.size;
            int splits = 1;
            for (int lesson = 0; lesson < plan.size; lesson++) splits *= heaps;
            int most = -MAX_WORTH;
            for (int split = 0; split < splits; split++) most = Math.max(most, leastHeap(who, split, heaps));
            return most;
        }

        /** A split is a number with a digit for each lesson: the heap that it lies on. */
        private int leastHeap(Person who, int split, int heaps) {
            int least = MAX_WORTH;
            for (int heap = 0; heap < heaps; heap++) {
                int rest = split;
                int lessons = 0;
                for (int lesson = 0; lesson < plan.size; lesson++) {
                    if (rest % heaps == heap) lessons |= 1 << lesson;
                    rest /= heaps;
                }
                int rank = who.rankWithin(lessons);
                least = Math.min(least, rank == NONE ? -MAX_WORTH : who.worthAt(rank));
            }
            return least;
        }
    }

    /** A lesson ends: the fewest people who must choose afresh. */
    private static final class Ending {
        private final Plan plan;
        private final Crowd crowd;
        private final Ways ways;
        int moved;
        final int[] then = new int[MAX_PEOPLE];

        Ending(Plan plan, Crowd crowd, Ways ways) {
            this.plan = plan;
            this.crowd = crowd;
            this.ways = ways;
        }

        /** Finds the set (moved) and what each has then, from the way that was run last. */
        boolean find(int lesson) {
            for (int many = 0; many <= crowd.size; many++) {
                for (int set = 0; set < 1 << crowd.size; set++) {
                    if (Integer.bitCount(set) == many && works(set, lesson)) {
                        moved = set;
                        return true;
                    }
                }
            }
            return false;
        }

        private boolean works(int set, int ended) {
            for (int one = 0; one < crowd.size; one++) {
                then[one] = contains(set, one) ? 0 : ways.held[one] & ~(1 << ended);
            }
            for (int one = 0; one < crowd.size; one++) {
                if (contains(set, one)) {
                    Person who = crowd.people[one];
                    then[one] = who.bundleAt(who.rankWithin(openLessons() & ~(1 << ended)));
                }
                if (!crowd.people[one].lawful[then[one]]) return false;
            }
            for (int lesson = 0; lesson < plan.size; lesson++) {
                if (spareOf(lesson) < 0) return false;
            }
            return true;
        }

        private int openLessons() {
            int open = 0;
            for (int lesson = 0; lesson < plan.size; lesson++) {
                if (spareOf(lesson) > 0) open |= 1 << lesson;
            }
            return open;
        }

        private int spareOf(int lesson) {
            int spare = plan.seats[lesson];
            for (int one = 0; one < crowd.size; one++) {
                if (contains(then[one], lesson)) spare--;
            }
            return spare;
        }
    }
}
