import java.nio.file.Files;
import java.nio.file.Path;
import java.util.ArrayList;
import java.util.Arrays;
import java.util.List;
import java.util.regex.Matcher;
import java.util.regex.Pattern;
import java.util.stream.Stream;

/**
 * Tests name the words of the document that they are about (Check.about). Here: that these words stand there, with that
 * promise or before all promises, and that no words of the document are left without a test.
 */
public final class DocumentTest {
    private static final Path DOCUMENT = Path.of("../shared/DOC.md");
    private static final Path TESTS = Path.of("src/test/java");
    private static final int PROMISES = 38;
    private static final Pattern ABOUT = Pattern.compile("Check\\.about\\(\\s*(\\d+),\\s*((?:\"(?:[^\"\\\\]|\\\\.)*\"[\\s+]*)+)\\)");

    private record Quote(int promise, String words) { }

    /** A part of the document, and which of its signs a test is about. */
    private static final class Section {
        final String text;
        final boolean[] tested;

        Section(String text) {
            this.text = text;
            tested = new boolean[text.length()];
        }

        boolean mark(String words) {
            boolean found = false;
            for (int at = text.indexOf(words); at >= 0; at = text.indexOf(words, at + 1)) {
                Arrays.fill(tested, at, at + words.length(), true);
                found = true;
            }
            return found;
        }

        String untested() {
            StringBuilder rest = new StringBuilder();
            for (int i = 0; i < tested.length; i++) rest.append(tested[i] ? ' ' : text.charAt(i));
            return rest.toString().replaceAll("\\s+", " ").trim();
        }
    }

    public static void main(String[] args) throws Exception {
        String document = Files.readString(DOCUMENT);
        Section before = new Section(plain(document.substring(0, document.indexOf("## The public face"))
            + document.substring(document.indexOf("## Terms"), document.indexOf("## Promise 1:"))));
        Section[] promises = new Section[PROMISES + 1];
        for (int i = 1; i <= PROMISES; i++) promises[i] = new Section(sectionOf(document, i));
        for (Quote quote : quotes()) {
            boolean found = promises[quote.promise].mark(quote.words) | before.mark(quote.words);
            Check.due("the document says \"" + quote.words + "\" with promise " + quote.promise, found, true);
        }
        for (int i = 1; i <= PROMISES; i++) Check.due("promise " + i + ": without a test: " + promises[i].untested(), isNothing(promises[i].untested()), true);
        String rest = before.untested().replaceAll("==== [123]\\.|## Terms|# LessonPurses|## What it is|The constants:", "");
        rest = rest.substring(rest.indexOf("why somebody didn't get a lesson.") + "why somebody didn't get a lesson.".length());
        Check.due("terms without a test: " + rest, isNothing(rest), true);
        Check.end("DocumentTest");
    }

    private static boolean isNothing(String rest) {
        return !Pattern.compile("[A-Za-z0-9]").matcher(rest).find();
    }

    private static String plain(String text) {
        return text.replace("```text", " ").replace("`", "").replaceAll("\\s+", " ");
    }

    /** What a promise says behind its heading and its signature. */
    private static String sectionOf(String document, int promise) {
        int from = document.indexOf("## Promise " + promise + ":");
        int to = document.indexOf("\n## ", from + 1);
        String section = document.substring(from, to);
        return plain(section.substring(section.indexOf("`:") + 2));
    }

    private static List<Quote> quotes() throws Exception {
        List<Quote> found = new ArrayList<>();
        try (Stream<Path> files = Files.list(TESTS)) {
            for (Path file : (Iterable<Path>) files.sorted()::iterator) {
                Matcher about = ABOUT.matcher(Files.readString(file));
                while (about.find()) found.add(new Quote(Integer.parseInt(about.group(1)), joined(about.group(2))));
            }
        }
        return found;
    }

    /** The text of string literals that are joined by +. */
    private static String joined(String literals) {
        StringBuilder text = new StringBuilder();
        Matcher literal = Pattern.compile("\"((?:[^\"\\\\]|\\\\.)*)\"").matcher(literals);
        while (literal.find()) text.append(literal.group(1).replace("\\\"", "\""));
        return text.toString();
    }
}
