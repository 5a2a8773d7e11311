/** An object's last calls, and how much room its dearest calls take. */
public final class CallsTest {
    private static final int LAST_CALL = 512;
    /** The room for all calls of a run holds some 7.3 million fields and elements; an object with all its calls needs little of it. */
    private static final long ROOM_BYTES = 1_000_000;

    private int calls = 0;
    private final LessonPurses x = new LessonPurses();

    public static void main(String[] args) {
        Check.about(1, "An object is used for at most 512 calls after it has been made; what later calls answer is free.");
        new CallsTest().lastCalls();
        dearestCalls();
        Check.end("CallsTest");
    }

    private void call(String what, long got, long want) {
        calls++;
        if (calls <= LAST_CALL) Check.due("call " + calls + ": " + what, got, want);
    }

    /** Everything changes with nearly every call, up to the last one. */
    private void lastCalls() {
        call("lesson", x.lesson(1, 0, 1), 0);
        call("person", x.person(50, 0), 0);
        int round = 0;
        while (calls < LAST_CALL - 10) {
            round++;
            call("feed", x.feed('a' << 24 | 'd' << 16 | 'd' << 8 | ' ', '0' + round % 10 << 24 | '*' << 16 | 'h' << 8 | 'a',
                's' << 24 | ' ' << 16 | '0' << 8 | ';', 0, 0), 20);
            call("wish", x.wish(0, 12), 1);
            call("price", x.price(0, round) ? 1 : 0, 1);
            call("buys", x.buys(0, 2), round <= 50 ? round % 10 : 0);
            call("settle", x.settle(1) ? 1 : 0, 1);
        }
        call("the 508th or so", x.price(0, 50) ? 1 : 0, 1);
        while (calls < LAST_CALL - 3) call("wish", x.wish(0, 0), 0);
        call("the third last", x.feed('a' << 24 | 'd' << 16 | 'd' << 8 | '4', '*' << 24 | 'h' << 16 | 'a' << 8 | 's', '0' << 24 | ';' << 16, 0, 0), 20);
        call("the second last", x.wish(0, 10), 1);
        call("the last", x.why(0, 0, 0), 0);
        Check.due("calls", calls, LAST_CALL);
    }

    private static LessonPurses dear() {
        LessonPurses x = Make.apart(0, 0, 0, 0, 0, 0, 0, 0, 0, 0);
        x.step(1);
        x.most(6);
        for (int i = 0; i < 8; i++) {
            x.person(200, 0);
            Make.wish(x, i, "add " + "(count+1)*".repeat(20) + "1;add " + "hours+".repeat(20) + "has " + i + ";");
        }
        Check.falsely(x, "add " + "(count+1)*".repeat(20) + "2;");
        return x;
    }

    private static void dearestCalls() {
        com.sun.management.ThreadMXBean bean = (com.sun.management.ThreadMXBean) java.lang.management.ManagementFactory.getThreadMXBean();
        long before = bean.getCurrentThreadAllocatedBytes();
        LessonPurses x = dear();
        long sum = 0;
        for (int i = 0; i < 35; i++) {
            x.most(5 + i % 2);
            for (int way = 1; way <= 4; way++) sum += x.gain(way, i % 8);
            for (int way = 0; way <= 5; way++) sum += x.few(way, i % 10, 0) * 0;
            sum += x.fit(60, 1) * 0 + x.edge(i % 8, i % 10) * 0;
        }
        long bytes = bean.getCurrentThreadAllocatedBytes() - before;
        Check.due("nobody gets anything without places: no gain", sum, 0);
        Check.due("bytes of an object and its calls: " + bytes, bytes < ROOM_BYTES, true);
    }
}
