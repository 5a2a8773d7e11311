import java.lang.reflect.Method;
import java.lang.reflect.Modifier;
import java.nio.charset.StandardCharsets;
import java.nio.file.Files;
import java.nio.file.Path;
import java.util.Arrays;
import java.util.Set;
import java.util.TreeSet;
import java.util.regex.Matcher;
import java.util.regex.Pattern;
import java.util.stream.Stream;

/** What README.md tells somebody who is new here is so: its example, its tables of calls, the files that it names. */
public final class ReadmeTest {
    private static final Path TESTS = Path.of("src/test/java");
    private static final Pattern ROW = Pattern.compile("(?m)^\\| `(\\w+)\\(([^)]*)\\)` \\|.*\\| ([^|]*)\\|$");

    public static void main(String[] args) throws Exception {
        String readme = Files.readString(Path.of("README.md"));
        example(block(readme, "java"), block(readme, "text"));
        wishes(readme);
        calls(readme);
        tests(readme);
        Check.end("ReadmeTest");
    }

    private static String block(String readme, String kind) {
        Matcher block = Pattern.compile("```" + kind + "\n((?s:.)*?)```").matcher(readme);
        return block.find() ? block.group(1) : "no block of " + kind;
    }

    /** Runs the example as the page says, in a Java machine of its own. */
    private static void example(String source, String printed) throws Exception {
        Path folder = Files.createTempDirectory("readme");
        Path file = folder.resolve("Example.java");
        try {
            Files.writeString(file, source);
            Path java = Path.of(System.getProperty("java.home"), "bin", "java");
            Process run = new ProcessBuilder(java.toString(), "-cp", System.getProperty("java.class.path"), file.toString())
                .redirectError(ProcessBuilder.Redirect.INHERIT).start();
            String got = new String(run.getInputStream().readAllBytes(), StandardCharsets.UTF_8).replace("\r", "");
            Check.due("the example's exit code", run.waitFor(), 0);
            Check.same("what the example prints", got, printed);
        } finally {
            Files.deleteIfExists(file);
            Files.deleteIfExists(folder);
        }
    }

    private static void wishes(String readme) {
        Matcher text = Pattern.compile("`((?:add|never) [^`]*;)`").matcher(readme);
        Check.due("a text of wishes is shown", text.find(), true);
        LessonPurses x = new LessonPurses();
        x.person(90, 0);
        Check.due("it is a good one", Check.wish(x, 0, text.group(1)), 2);
    }

    /** Each call of the face has its row, with as many arguments; what wrong ones are answered stands there, too. */
    private static void calls(String readme) throws Exception {
        Set<String> told = new TreeSet<>();
        for (Matcher row = ROW.matcher(readme); row.find();) {
            int many = row.group(2).isEmpty() ? 0 : row.group(2).split(",").length;
            told.add(row.group(1) + " " + many);
        }
        Set<String> face = new TreeSet<>();
        for (Method m : LessonPurses.class.getDeclaredMethods()) {
            if (Modifier.isPublic(m.getModifiers())) face.add(m.getName() + " " + m.getParameterCount());
        }
        Check.same("the calls", told.toString(), face.toString());
        for (Matcher row = ROW.matcher(readme); row.find();) refusal(row.group(1), row.group(3));
    }

    private static void refusal(String name, String told) throws Exception {
        LessonPurses x = Make.full();
        if (name.equals("judge") || name.equals("fault")) x = new LessonPurses();
        for (Method m : LessonPurses.class.getDeclaredMethods()) {
            if (!m.getName().equals(name) || !Modifier.isPublic(m.getModifiers()) || name.equals("square")) continue;
            Object[] wrong = new Object[m.getParameterCount()];
            Arrays.fill(wrong, -7);
            String answer = String.valueOf(m.invoke(x, wrong));
            Set<String> due = new TreeSet<>(Arrays.asList(told.replace("`NONE`", "-1").replaceAll("[`,]", "").split(" ")));
            Check.due(name + " refused answers " + answer + ", which is among " + due, due.contains(answer), true);
        }
    }

    private static void tests(String readme) throws Exception {
        Set<String> named = new TreeSet<>();
        Matcher name = Pattern.compile("`(\\w+Test)`").matcher(readme);
        while (name.find()) named.add(name.group(1) + ".java");
        Set<String> there = new TreeSet<>();
        try (Stream<Path> files = Files.list(TESTS)) {
            files.map(file -> file.getFileName().toString()).filter(file -> file.endsWith("Test.java")).forEach(there::add);
        }
        Check.same("the tests", named.toString(), there.toString());
        Matcher path = Pattern.compile("`((?:\\.\\./|src/|\\.ci/)[\\w./]+|NOTES\\.md)`").matcher(readme);
        while (path.find()) Check.due(path.group(1) + " is there", Files.exists(Path.of(path.group(1))), true);
        for (Class<?> inside : LessonPurses.class.getDeclaredClasses()) {
            Check.due(inside.getSimpleName() + " is told of", readme.contains("`" + inside.getSimpleName() + "`"), true);
        }
    }
}
