/** What was asked before, and in which order, is nothing to an answer: only what is told is. */
public final class AskedBeforeTest {
    public static void main(String[] args) {
        askedBefore();
        Check.end("AskedBeforeTest");
    }

    private interface Teller {
        boolean on(LessonPurses x);
    }

    private interface Asker {
        long of(LessonPurses x);
    }

    private static Teller[] tellers() {
        return new Teller[] {
            x -> x.lesson(2, 30, 32) == 6, x -> x.places(1, 0), x -> x.after(1, 0) == 3, x -> x.most(1), x -> x.person(92, 3) == 3,
            x -> x.purse(1, 54), x -> x.purse(2, 20), x -> x.wish(0, 13) == 1, x -> x.wish(2, 40) == 2, x -> x.wish(1, 0) == 0,
            x -> x.falsely(40) == 2, x -> x.price(1, 96), x -> x.price(0, 0), x -> x.step(50), x -> x.settle(9), x -> x.give(2, 3)
        };
    }

    /** What each call tells of all lessons and people, and in all ways. */
    private static Asker[] askers() {
        return new Asker[] {
            x -> all(6, l -> all(4, p -> x.bars(p, 1 << l) * 99 + x.worth(p, 1 << l))),
            x -> all(4, p -> x.buys(p, 0)), x -> all(4, p -> x.buys(p, 1)), x -> all(4, p -> x.buys(p, 2)), x -> all(4, x::dear), x -> all(7, x::over),
            x -> x.square(), x -> x.fit(12, 0), x -> x.fit(12, 1), x -> all(7, l -> x.fit(12, 10 + l)),
            x -> all(4, p -> all(7, l -> x.why(p, l, 0))), x -> all(4, p -> all(7, l -> x.why(p, l, 1))),
            x -> all(6, way -> all(4, p -> x.has(way, p))), x -> all(6, way -> all(7, l -> x.left(way, l))), x -> all(6, x::sum),
            x -> all(6, way -> all(4, p -> x.envy(way, p, (p + 1) % 3))), x -> all(6, way -> x.envies(way, 1)), x -> all(6, way -> x.envies(way, 2)),
            x -> all(6, way -> all(4, what -> x.waste(way, what))), x -> all(4, x::share), x -> all(5, way -> all(4, p -> x.gain(way, p))),
            x -> all(6, way -> all(4, p -> x.rank(way, p))), x -> all(4, x::ties), x -> all(4, p -> all(7, l -> x.edge(p, l))),
            x -> all(6, way -> all(7, l -> x.few(way, l, 0))), x -> all(6, way -> all(4, p -> x.few(way, 2, 10 + p))), x -> x.judge()
        };
    }

    /** This one changes what it tells of. */
    private static long settled(LessonPurses x) {
        return (x.settle(12) ? 1000 : 0) + x.count(7);
    }

    private interface Each {
        long at(int number);
    }

    private static long all(int many, Each each) {
        long mixed = many;
        for (int i = 0; i < many; i++) mixed = mixed * 1_000_003 + each.at(i);
        return mixed;
    }

    /** Asked first of all, asked before and behind what is told, asked behind all other calls: the answers are the same. */
    private static void askedBefore() {
        Teller[] tellers = tellers();
        Asker[] askers = askers();
        for (int t = 0; t < tellers.length; t++) {
            for (int a = 0; a < askers.length; a++) {
                LessonPurses x = Make.busy();
                Check.due("what is told: " + t, tellers[t].on(x), true);
                long first = askers[a].of(x);
                LessonPurses y = Make.busy();
                askers[a].of(y);
                tellers[t].on(y);
                Check.due("told " + t + ", asked " + a + " before, too", askers[a].of(y), first);
                LessonPurses z = Make.busy();
                z.square();
                z.gain(2, 0);
                tellers[t].on(z);
                z.gain(4, 2);
                Check.due("told " + t + ", asked " + a + " behind others", askers[a].of(z), first);
            }
            LessonPurses x = Make.busy();
            tellers[t].on(x);
            LessonPurses y = Make.busy();
            y.square();
            tellers[t].on(y);
            Check.due("told " + t + ", then settled", settled(y), settled(x));
        }
    }
}
