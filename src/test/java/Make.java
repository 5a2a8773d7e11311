/** Objects that tests begin with. */
final class Make {
    private Make() { }

    /** Lessons at two hours of their own each, so many places each. */
    static LessonPurses apart(int... places) {
        LessonPurses x = new LessonPurses();
        for (int i = 0; i < places.length; i++) x.lesson(places[i], 2 * i, 2 * i + 2);
        return x;
    }

    static int person(LessonPurses x, int purse, String wishes) {
        int number = x.person(purse, 0);
        if (Check.wish(x, number, wishes) < 0) throw new IllegalArgumentException(wishes + " at " + x.fault());
        return number;
    }

    /** New wishes, which must be good ones. */
    static void wish(LessonPurses x, int person, String wishes) {
        if (Check.wish(x, person, wishes) < 0) throw new IllegalArgumentException(wishes + " at " + x.fault());
    }

    /** Six lessons, three people, and room for more of everything; a text waits on the tape, the latest fault was at 4. */
    static LessonPurses busy() {
        LessonPurses x = new LessonPurses();
        int[][] lessons = {{1, 0, 2}, {2, 1, 4}, {1, 4, 6}, {3, 8, 9}, {0, 9, 12}, {2, 20, 23}};
        for (int[] l : lessons) x.lesson(l[0], l[1], l[2]);
        x.after(3, 2);
        x.after(5, 0);
        for (int i = 0; i < 3; i++) {
            x.person(90 + 5 * i, i * 3);
            wish(x, i, "add 40*has 0+" + (30 + i) + "*has 1+" + (20 - i) + "*has 2+9*has 3+7*has 5;never if has 4=1 and purse>95;");
        }
        int[] prices = {55, 0, 45, 3, 1, 20};
        for (int i = 0; i < prices.length; i++) x.price(i, prices[i]);
        x.most(3);
        x.step(7);
        x.give(0, 1);
        x.give(1, 6);
        x.give(2, 33);
        Check.falsely(x, "add 50*has 2;");
        Check.falsely(x, "add;");
        Check.falsely(x, "add !;");
        Check.feed(x, "add 11*has 0;add 3+has 3*5;");
        return x;
    }

    /** As much of everything as there may be: lessons, people, couples, bytes on the tape. */
    static LessonPurses full() {
        LessonPurses x = new LessonPurses();
        for (int i = 0; i < 10; i++) x.lesson(i % 4, 3 * i, 3 * i + 3 + i % 2);
        for (int i = 0; i < 20; i++) x.after(4 + i % 6, i / 6);
        for (int i = 0; i < 8; i++) {
            x.person(90 + i, 255 >> i);
            wish(x, i, "add 9*has 0+8*has 1+7*has 2+" + (i + 1) + "*count;");
            x.give(i, 1 << i);
            x.price(i, 9 * i);
        }
        Check.falsely(x, "add 9*has 1;");
        Check.feed(x, "add 4*has 2;" + " ".repeat(382) + "never;");
        return x;
    }
}
