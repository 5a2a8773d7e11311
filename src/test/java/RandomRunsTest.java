import java.util.Random;

/** Runs of random calls, the same on LessonPurses and on PlainPurses: every answer must be the same. */
public final class RandomRunsTest {
    private static final String[] SCRAPS = {
        "add", "never", "if", "or", "and", "not", "has", "count", "hours", "first", "last", "gaps", "purse", "0", "3", "9",
        "10", "12345", "123456", ";", "+", "-", "*", "/", "(", ")", "[", "]", "<", ">", "=", "!", "A", "adds", "\t", "\u00e9", " ", "\n"
    };

    private static final int LAST_CALL = 512;

    private final Random random;
    private final LessonPurses real = new LessonPurses();
    private final PlainPurses plain = new PlainPurses();
    private final StringBuilder story = new StringBuilder();
    private boolean same = true;
    private int calls = 0;
    /** In a rich run nearly all calls are as told, and everybody wants something. */
    private final boolean rich;

    /** A long run goes on till an object's last call. */
    private final boolean whole;

    private RandomRunsTest(long seed) {
        random = new Random(seed);
        rich = seed % 3 != 0;
        whole = seed % 5 == 0;
    }

    public static void main(String[] args) {
        Check.about(1, "An object is used for at most 512 calls after it has been made; what later calls answer is free.");
        int runs = args.length > 0 ? Integer.parseInt(args[0]) : 240;
        int from = args.length > 1 ? Integer.parseInt(args[1]) : 0;
        for (int seed = from; seed < from + runs; seed++) {
            RandomRunsTest run = new RandomRunsTest(seed);
            run.play();
            Check.due("random run " + seed + run.story, run.same ? 1 : 0, 1);
        }
        Check.end("RandomRunsTest");
    }

    private void play() {
        int lessons = random.nextInt(11);
        int people = random.nextInt(9);
        if (random.nextInt(3) == 0) { lessons = random.nextInt(4); people = random.nextInt(4); }
        if (random.nextInt(3) == 0) { lessons = random.nextInt(7); people = random.nextInt(4); }
        if (rich) { lessons = Math.max(2, lessons); people = Math.max(2, people); }
        int hours = random.nextBoolean() ? 40 : 12;
        for (int i = 0; i < lessons; i++) {
            int from = random.nextInt(hours);
            int to = from + 1 + random.nextInt(3);
            int places = random.nextInt(4);
            note("lesson", real.lesson(places, from, to), plain.lesson(places, from, to), places, from, to);
        }
        for (int i = random.nextInt(8); i > 0; i--) tellAfter();
        for (int i = 0; i < people; i++) {
            int purse = random.nextInt(4) == 0 ? random.nextInt(201) : 90 + random.nextInt(10);
            int done = random.nextInt(3) == 0 ? random.nextInt(1024) : 0;
            note("person", real.person(purse, done), plain.person(purse, done), purse, done);
            if (rich || random.nextInt(6) != 0) tellWish(i);
        }
        if (rich) tellWish(-100);
        for (int i = random.nextInt(8); i > 0; i--) tellPrice();
        for (int i = 0; rich && i < people; i++) {
            int given = lawfulFor(i);
            note("give", real.give(i, given), plain.give(i, given), i, given);
        }
        for (int i = 0; (i < 110 || whole) && calls < LAST_CALL && same; i++) {
            if (random.nextInt(rich ? 12 : 6) == 0) tellSomething();
            else askSomething();
        }
    }

    private void note(String call, long got, long want, int... with) {
        calls++;
        if (!same || calls > LAST_CALL) return;
        story.append('\n').append(call).append(java.util.Arrays.toString(with)).append(" = ").append(got);
        if (got != want) {
            same = false;
            story.append(" but ").append(want);
        }
    }

    private void note(String call, boolean got, boolean want, int... with) {
        note(call, got ? 1 : 0, want ? 1 : 0, with);
    }

    /** Mostly a number that is told, sometimes one beside it. */
    private int near(int many) {
        return random.nextInt(rich ? 60 : 25) == 0 ? random.nextInt(14) - 2 : many == 0 ? 0 : random.nextInt(many);
    }

    private int someLesson() {
        return near(plain.count(0));
    }

    private int somePerson() {
        return near(plain.count(1));
    }

    private int someBundle() {
        if (random.nextInt(30) == 0) return random.nextBoolean() ? -1 - random.nextInt(3) : 1024 + random.nextInt(3);
        int bits = random.nextInt(1024);
        if (random.nextInt(3) != 0) bits &= random.nextInt(1024);
        return random.nextInt(6) == 0 ? bits : bits & (1 << plain.count(0)) - 1;
    }

    private int lawfulFor(int person) {
        int bits = someBundle();
        for (int i = 0; i < 20 && plain.bars(person, bits) != 0; i++) bits = someBundle() & random.nextInt(1024);
        return bits;
    }

    private int someWay() {
        return random.nextInt(25) == 0 ? random.nextInt(9) - 2 : random.nextInt(6);
    }

    private void tellAfter() {
        int a = someLesson();
        int b = someLesson();
        note("after", real.after(a, b), plain.after(a, b), a, b);
    }

    private void tellPrice() {
        int l = someLesson();
        int much = random.nextInt(8) == 0 ? random.nextInt(260) - 4 : random.nextInt(rich ? 120 : 70);
        note("price", real.price(l, much), plain.price(l, much), l, much);
    }

    private void tellSomething() {
        int p = somePerson();
        int l = someLesson();
        switch (random.nextInt(13)) {
            case 0 -> tellPrice();
            case 1 -> tellAfter();
            case 2 -> { int m = random.nextInt(9) - 1; note("most", real.most(m), plain.most(m), m); }
            case 3 -> { int m = random.nextInt(14) - 2; note("places", real.places(l, m), plain.places(l, m), l, m); }
            case 4 -> { int m = random.nextInt(210) - 4; note("purse", real.purse(p, m), plain.purse(p, m), p, m); }
            case 5 -> { int m = random.nextInt(53) - 1; note("step", real.step(m), plain.step(m), m); }
            case 6 -> { int n = random.nextInt(20) - 1; note("settle", real.settle(n), plain.settle(n), n); }
            case 7, 8 -> tellWish(p);
            case 9 -> tellWish(-100);
            case 10 -> {
                int from = random.nextInt(44) - 2;
                int to = from + random.nextInt(4);
                int m = random.nextInt(12) - 1;
                note("lesson", real.lesson(m, from, to), plain.lesson(m, from, to), m, from, to);
            }
            case 11 -> {
                int m = random.nextInt(210) - 4;
                int done = someBundle();
                note("person", real.person(m, done), plain.person(m, done), m, done);
            }
            default -> { int b = someBundle(); note("give", real.give(p, b), plain.give(p, b), p, b); }
        }
    }

    private void askSomething() {
        int p = somePerson();
        int q = somePerson();
        int l = someLesson();
        int way = someWay();
        int b = someBundle();
        int two = near(2);
        int three = near(3);
        int four = near(4);
        switch (random.nextInt(27)) {
            case 0 -> note("bars", real.bars(p, b), plain.bars(p, b), p, b);
            case 1 -> note("worth", real.worth(p, b), plain.worth(p, b), p, b);
            case 2 -> note("buys", real.buys(p, three), plain.buys(p, three), p, three);
            case 3 -> note("dear", real.dear(p), plain.dear(p), p);
            case 4 -> note("over", real.over(l), plain.over(l), l);
            case 5 -> note("square", real.square(), plain.square());
            case 6, 7 -> {
                int n = random.nextInt(10) == 0 ? random.nextInt(64) - 1 : random.nextInt(14);
                int what = random.nextInt(3) == 0 ? two : 10 + l;
                note("fit", real.fit(n, what), plain.fit(n, what), n, what);
            }
            case 8 -> {
                int by = 13 + random.nextInt(245) - (random.nextInt(9) == 0 ? 14 : 0);
                note("must", real.must(by), plain.must(by), by);
            }
            case 9, 10 -> note("why", real.why(p, l, two), plain.why(p, l, two), p, l, two);
            case 11 -> {
                int given = rich ? lawfulFor(p) : b;
                note("give", real.give(p, given), plain.give(p, given), p, given);
            }
            case 12 -> note("has", real.has(way, p), plain.has(way, p), way, p);
            case 13 -> note("has", real.has(1, p), plain.has(1, p), 1, p);
            case 14 -> note("left", real.left(way, l), plain.left(way, l), way, l);
            case 15 -> note("sum", real.sum(way), plain.sum(way), way);
            case 16 -> note("envy", real.envy(way, p, q), plain.envy(way, p, q), way, p, q);
            case 17 -> note("envies", real.envies(way, three), plain.envies(way, three), way, three);
            case 18 -> note("waste", real.waste(way, four), plain.waste(way, four), way, four);
            case 19 -> note("share", real.share(p), plain.share(p), p);
            case 20 -> note("gain", real.gain(way, p), plain.gain(way, p), way, p);
            case 21 -> note("rank", real.rank(way, p), plain.rank(way, p), way, p);
            case 22 -> note("ties", real.ties(p), plain.ties(p), p);
            case 23 -> note("edge", real.edge(p, l), plain.edge(p, l), p, l);
            case 24, 25 -> {
                int what = random.nextInt(3) == 0 ? two : 10 + p;
                note("few", real.few(way, l, what), plain.few(way, l, what), way, l, what);
            }
            default -> { int what = near(10); note("judge", real.judge(), plain.judge()); note("count", real.count(what), plain.count(what), what); }
        }
    }

    /** Wishes of somebody, or false ones (-100): mostly a good text, sometimes a spoilt one. */
    private void tellWish(int person) {
        StringBuilder text = new StringBuilder();
        int statements = random.nextInt(12) == 0 ? 14 + random.nextInt(4) : 1 + random.nextInt(4);
        if (rich) richText(text);
        else for (int i = 0; i < statements; i++) statement(text, statements > 5);
        if (!rich && random.nextInt(6) == 0) spoil(text);
        int length = Math.min(text.length(), 400);
        if (!rich && random.nextInt(8) == 0) length = random.nextInt(length + 1);
        text.setLength(length);
        story.append("\n\"").append(text).append('"');
        for (int at = 0; at < length; at += 20) feedTwenty(text, at);
        if (random.nextInt(30) == 0) note("wish", real.wish(0, length + 20), plain.wish(0, length + 20), 0, length + 20);
        int n = length;
        if (person == -100) note("falsely", real.falsely(n), plain.falsely(n), n);
        else note("wish", real.wish(person, n), plain.wish(person, n), person, n);
        note("fault", real.fault(), plain.fault());
    }

    private void richText(StringBuilder text) {
        text.append("add ");
        int scale = random.nextBoolean() ? 90 : 6;
        for (int l = 0; l < plain.count(0); l++) {
            if (l > 0) text.append(random.nextInt(7) == 0 ? "-" : "+");
            text.append(random.nextInt(scale)).append("*has ").append(l);
        }
        text.append(';');
        if (random.nextInt(3) == 0) {
            text.append("add ").append(random.nextInt(60)).append(" if has ").append(random.nextInt(10));
            text.append("+has ").append(random.nextInt(10)).append("=2;");
        }
        if (random.nextInt(3) == 0) text.append("add 0-gaps/").append(random.nextInt(4)).append(';');
        if (random.nextInt(4) == 0) text.append("never if hours>").append(3 + random.nextInt(8)).append(';');
        if (random.nextInt(8) == 0) text.append("never if count<").append(1 + random.nextInt(2)).append(';');
        if (random.nextInt(8) == 0) text.append("never if first<").append(random.nextInt(6)).append(" and count>0;");
        if (random.nextInt(8) == 0) text.append("never if purse>95 and has ").append(random.nextInt(10)).append("=1;");
    }

    private void feedTwenty(StringBuilder text, int at) {
        int[] five = new int[5];
        for (int i = 0; i < 20; i++) {
            int sign = at + i < text.length() ? text.charAt(at + i) & 255 : random.nextInt(256);
            five[i / 4] |= sign << 24 - i % 4 * 8;
        }
        int got = real.feed(five[0], five[1], five[2], five[3], five[4]);
        note("feed", got, plain.feed(five), five);
    }

    private void spoil(StringBuilder text) {
        for (int i = 1 + random.nextInt(2); i > 0; i--) {
            int at = random.nextInt(text.length() + 1);
            String scrap = SCRAPS[random.nextInt(SCRAPS.length)];
            if (random.nextBoolean()) text.insert(at, scrap);
            else text.replace(at, Math.min(text.length(), at + 1 + random.nextInt(4)), scrap);
        }
    }

    private void statement(StringBuilder text, boolean brief) {
        boolean add = random.nextInt(4) != 0;
        if (add) {
            text.append("add ");
            if (!brief && random.nextInt(3) != 0) {
                int terms = 2 + random.nextInt(4);
                for (int i = 0; i < terms; i++) {
                    text.append(i == 0 ? "" : random.nextInt(6) == 0 ? "-" : "+");
                    text.append(random.nextInt(8) == 0 ? random.nextInt(100000) : random.nextInt(90)).append("*has ").append(random.nextInt(10));
                }
            } else {
                ex(text, brief ? 1 : 3);
            }
        } else {
            text.append("never ");
        }
        if (!add || random.nextBoolean()) {
            text.append(" if ");
            any(text, brief ? 0 : 3);
        }
        text.append(random.nextBoolean() ? ";" : " ;\n");
    }

    private void ex(StringBuilder text, int deep) {
        atom(text, deep);
        for (int i = random.nextInt(3); i > 0; i--) {
            text.append("+-*/".charAt(random.nextInt(4)));
            atom(text, deep);
        }
    }

    private void atom(StringBuilder text, int deep) {
        switch (random.nextInt(deep > 0 ? 5 : 4)) {
            case 0 -> text.append(random.nextInt(5) == 0 ? random.nextInt(100000) : random.nextInt(50));
            case 1, 2 -> text.append("has ").append(random.nextInt(10)).append(random.nextBoolean() ? " " : "");
            case 3 -> text.append(SCRAPS[7 + random.nextInt(6)]).append(' ');
            default -> {
                int many = random.nextInt(20) == 0 ? 8 + random.nextInt(3) : 1;
                text.append("(".repeat(many));
                ex(text, deep - 1);
                text.append(")".repeat(many));
            }
        }
    }

    private void any(StringBuilder text, int deep) {
        one(text, deep);
        for (int i = random.nextInt(3); i > 1; i--) {
            text.append(random.nextBoolean() ? " or " : " and ");
            one(text, deep);
        }
    }

    private void one(StringBuilder text, int deep) {
        int kind = random.nextInt(deep > 0 ? 6 : 4);
        if (kind == 5) {
            int many = random.nextInt(20) == 0 ? 8 + random.nextInt(3) : 1;
            text.append("[".repeat(many));
            any(text, deep - 1);
            text.append("]".repeat(many));
        } else if (kind == 4) {
            text.append("not ".repeat(random.nextInt(20) == 0 ? 8 + random.nextInt(3) : 1));
            one(text, deep - 1);
        } else {
            ex(text, deep - 1);
            text.append("<>=".charAt(random.nextInt(3)));
            ex(text, deep - 1);
        }
    }
}
