import java.lang.reflect.Constructor;
import java.lang.reflect.Field;
import java.lang.reflect.Method;
import java.lang.reflect.Modifier;
import java.nio.file.Files;
import java.nio.file.Path;
import java.util.List;
import java.util.Set;
import java.util.TreeSet;
import java.util.regex.Matcher;
import java.util.regex.Pattern;

/** What of LANGUAGE.md can be seen from outside: the face, the words that the source does without, what calls make. */
public final class LanguageTest {
    private static final List<String> FACE = List.of(
        "after", "bars", "buys", "count", "dear", "edge", "envies", "envy", "falsely", "fault", "feed", "few", "fit",
        "gain", "give", "has", "judge", "left", "lesson", "most", "must", "over", "person", "places", "price", "purse",
        "rank", "settle", "share", "square", "step", "sum", "ties", "waste", "why", "wish", "worth");

    private static final List<String> LIBRARY = List.of(
        "Arrays.fill", "Math.max", "Math.min", "Integer.bitCount", "System.arraycopy");

    public static void main(String[] args) throws Exception {
        face();
        words();
        makesNothing();
        Check.end("LanguageTest");
    }

    private static void face() {
        Set<String> open = new TreeSet<>();
        for (Method m : LessonPurses.class.getDeclaredMethods()) {
            if (Modifier.isPublic(m.getModifiers())) open.add(m.getName());
            else Check.due(m.getName() + " is private", Modifier.isPrivate(m.getModifiers()), true);
        }
        Check.due("the face " + open, open.equals(new TreeSet<>(FACE)), true);
        for (Field f : LessonPurses.class.getDeclaredFields()) {
            boolean constant = f.getName().equals("NONE");
            Check.due(f.getName(), constant ? Modifier.isPublic(f.getModifiers()) : Modifier.isPrivate(f.getModifiers()), true);
        }
        Constructor<?>[] makers = LessonPurses.class.getDeclaredConstructors();
        Check.due("one constructor", makers.length, 1);
        Check.due("public", Modifier.isPublic(makers[0].getModifiers()), true);
        Check.due("final", Modifier.isFinal(LessonPurses.class.getModifiers()), true);
        Class<?>[] inside = LessonPurses.class.getDeclaredClasses();
        Check.due("at most some twelve classes", inside.length < 12, true);
        for (Class<?> c : inside) {
            Check.due(c + " is static", Modifier.isStatic(c.getModifiers()), true);
            for (Method m : c.getDeclaredMethods()) {
                Check.due(m + " has no name of the face", open.contains(m.getName()), false);
                Check.due(m + " has at most seven parameters", m.getParameterCount() <= 7, true);
            }
        }
    }

    private static void words() throws Exception {
        String source = Files.readString(Path.of("src/main/java/LessonPurses.java"));
        String code = source.replaceAll("/\\*(?s:.)*?\\*/|//[^\n]*|\"[^\"\n]*\"", " ");
        String[] refused = {
            "throw", "throws", "try", "catch", "finally", "synchronized", "assert", "protected", "double", "float",
            "Random", "Object", "equals", "hashCode", "toString", "\\w*Exact", "volatile", "native", "Thread", "package"
        };
        for (String word : refused) Check.due("no " + word, code.matches("(?s).*\\b" + word + "\\b.*"), false);
        Check.due("no lambda", code.contains("->"), false);
        Check.due("no method reference", code.contains("::"), false);
        Check.due("Arrays alone from the library", code.replace("import java.util.Arrays;", "").contains("import"), false);
        Check.due("signs 1 to 127", source.chars().allMatch(c -> c < 128), true);
        Matcher library = Pattern.compile("\\b(Arrays|Math|Integer|Long|System)\\.\\w+").matcher(code);
        while (library.find()) Check.due("library: " + library.group(), LIBRARY.contains(library.group()), true);
        lengths(source);
    }

    /** Methods stay short: a member of a class inside ends at eight blanks and a brace. */
    private static void lengths(String source) {
        int start = 0;
        String[] lines = source.split("\n");
        for (int i = 0; i < lines.length; i++) {
            if (lines[i].matches(" {4}( {4})?\\S.*\\) \\{")) start = i;
            if (lines[i].matches(" {4}( {4})?\\}")) Check.due("short: " + lines[start], i - start <= 60 || lines[start].contains("class"), true);
        }
    }

    /** One room for all calls: only person() may make anything. */
    private static void makesNothing() {
        com.sun.management.ThreadMXBean bean = (com.sun.management.ThreadMXBean) java.lang.management.ManagementFactory.getThreadMXBean();
        LessonPurses x = new LessonPurses();
        for (int i = 0; i < 6; i++) x.lesson(1, 3 * i, 3 * i + 4);
        for (int i = 0; i < 3; i++) {
            x.person(90 + i, i);
            Check.wish(x, i, "add 9*has 0+8*has 1+7*has 2+6*has 3+5*has 4+count*" + i + ";never if [not has 3=1] and first>9;");
        }
        Check.falsely(x, "add 9*has 1;");
        long least = Long.MAX_VALUE;
        for (int i = 0; i < 20; i++) {
            long before = bean.getCurrentThreadAllocatedBytes();
            askAll(x);
            least = Math.min(least, bean.getCurrentThreadAllocatedBytes() - before);
        }
        Check.due("bytes made by calls: " + least, least < 200, true);
    }

    private static void askAll(LessonPurses x) {
        x.feed(0x61646420, 0x392a6861, 0x7320313b, 0x20202020, 0x20202020);
        x.wish(1, 20);
        x.feed(0x61646420, 0x392a6861, 0x7320313b, 0x20202020, 0x20202020);
        x.falsely(20);
        x.bars(0, 5);
        x.worth(0, 5);
        x.buys(0, 0);
        x.dear(0);
        x.square();
        x.fit(20, 0);
        x.settle(3);
        x.why(0, 0, 1);
        x.share(0);
        x.ties(0);
        x.edge(0, 0);
        x.judge();
        for (int way = 0; way < 6; way++) {
            x.has(way, 0);
            x.left(way, 0);
            x.sum(way);
            x.envies(way, 1);
            x.waste(way, 0);
            x.gain(way, 0);
            x.rank(way, 0);
            x.few(way, 0, 0);
        }
    }
}
