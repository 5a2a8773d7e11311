/** Counts answers that are as due and prints those that are not; helps to tell wishes as text. */
final class Check {
    private static int right = 0;
    private static int wrong = 0;
    private static String sentence = "";

    private Check() { }

    /** The promise, and the words of the document, that the answers from now on are about. DocumentTest reads these. */
    static void about(int promise, String words) {
        sentence = "promise " + promise + ", \"" + words + "\": ";
    }

    static void due(String what, long got, long want) {
        if (got == want) {
            right++;
        } else {
            wrong++;
            System.out.println(sentence + what + " answered " + got + ", due is " + want);
        }
    }

    static void due(String what, boolean got, boolean want) {
        due(what, got ? 1 : 0, want ? 1 : 0);
    }

    static void same(String what, String got, String want) {
        due(what, got.equals(want), true);
        if (!got.equals(want)) System.out.println("  before: " + want + "\n  behind: " + got);
    }

    /** Puts a text on the tape, blanks behind it up to a multiple of twenty: its length. */
    static int feed(LessonPurses on, String text) {
        for (int at = 0; at < text.length(); at += 20) {
            int[] five = new int[5];
            for (int i = 0; i < 20; i++) {
                int sign = at + i < text.length() ? text.charAt(at + i) : ' ';
                five[i / 4] |= sign << 24 - i % 4 * 8;
            }
            on.feed(five[0], five[1], five[2], five[3], five[4]);
        }
        return text.length();
    }

    static int wish(LessonPurses on, int person, String text) {
        return on.wish(person, feed(on, text));
    }

    static int falsely(LessonPurses on, String text) {
        return on.falsely(feed(on, text));
    }

    /** Prints the counts; the exit code is 1 if an answer was wrong or none was asked for. */
    static void end(String test) {
        System.out.println(test + ": " + right + " answers as due, " + wrong + " not");
        if (wrong != 0 || right == 0) System.exit(1);
    }
}
