import java.io.IOException;
import java.lang.reflect.Method;
import java.lang.reflect.Modifier;
import java.net.URL;
import java.net.URLClassLoader;
import java.nio.file.Files;
import java.nio.file.Path;
import java.util.ArrayList;
import java.util.List;
import java.util.Set;
import java.util.TreeSet;
import java.util.function.BiConsumer;
import java.util.regex.Matcher;
import java.util.regex.Pattern;
import java.util.stream.Stream;
import javax.tools.ToolProvider;

/** README.md: its Java is compiled and run as it stands, and each call must answer what is told behind it. */
final class ReadmeTests {
    private static final Checks CHECKS = new Checks();
    private static final Path README = Path.of("README.md");
    private static final Path TESTS = Path.of("src/test/java");
    private static final int MOST_CALLS = 512;
    /** A text of 200 bytes is written in so many rows. */
    private static final int MOST_ROWS = 25;

    private static final Pattern BLOCK = Pattern.compile("(?s)```java\n(.*?)```");
    private static final Pattern ANSWERED = Pattern.compile("((?:kites\\.|say\\(kites, ).*\\)); +// (-?[0-9]+|[A-Z]+)(?::.*)?");
    private static final Set<String> ANSWERS = Set.of("NONE", "UNKNOWN", "OUTSIDE", "NOT", "FULL");

    public static void main(String[] args) throws Exception {
        String page = Files.readString(README);
        examples(page);
        names(page);
        CHECKS.end();
    }

    /** Blocks that begin with a method stand beside the run, all others in it, one behind another. */
    private static void examples(String page) throws Exception {
        StringBuilder methods = new StringBuilder();
        StringBuilder run = new StringBuilder();
        List<String> calls = new ArrayList<>();
        Matcher blocks = BLOCK.matcher(page);
        while (blocks.find()) {
            String block = blocks.group(1);
            if (block.startsWith("static ")) {
                methods.append(block);
            } else {
                block.lines().forEach(line -> run.append(checked(line, calls)).append('\n'));
            }
        }
        int made = calls.stream().mapToInt(call -> call.startsWith("say(") ? MOST_ROWS : 1).sum();
        CHECKS.holds("README makes calls, and no more than an object is good for: " + made, made > 0 && made <= MOST_CALLS);
        int[] answered = new int[1];
        runCompiled(methods, run, (call, answers) -> {
            answered[0]++;
            CHECKS.due("README: " + call, answers[0], answers[1]);
        });
        CHECKS.due("calls of README that were run", answered[0], calls.size());
        for (Method method : FishingKites.class.getDeclaredMethods()) {
            boolean isCalled = calls.stream().anyMatch(call -> call.startsWith("kites." + method.getName() + "("));
            CHECKS.holds("README calls " + method.getName(), isCalled || !Modifier.isPublic(method.getModifiers()));
        }
        for (String answer : ANSWERS) {
            CHECKS.holds("README has a call that answers " + answer, run.toString().contains("FishingKites." + answer + "});"));
        }
    }

    /** The line with its answer checked; only the line that makes the object may stand without an answer. */
    private static String checked(String line, List<String> calls) {
        Matcher answered = ANSWERED.matcher(line);
        if (!answered.matches()) {
            CHECKS.holds("README: '" + line + "' tells its answer", line.equals("FishingKites kites = new FishingKites();"));
            return line;
        }
        String call = answered.group(1);
        String answer = answered.group(2);
        calls.add(call);
        String due = ANSWERS.contains(answer) ? "FishingKites." + answer : answer;
        return "due.accept(\"" + call.replace("\"", "'") + "\", new long[] {" + call + ", " + due + "});";
    }

    private static void runCompiled(CharSequence methods, CharSequence run, BiConsumer<String, long[]> due) throws Exception {
        Path place = Files.createTempDirectory("readme");
        try {
            Path source = place.resolve("ReadmeRun.java");
            Files.writeString(source, "public final class ReadmeRun {\n" + methods
                + "public static void run(java.util.function.BiConsumer<String, long[]> due) {\n" + run + "}\n}\n");
            int failed = ToolProvider.getSystemJavaCompiler().run(null, null, null, "-Xlint:all", "-Werror", "--release", "17",
                "-cp", System.getProperty("java.class.path"), "-d", place.toString(), source.toString());
            CHECKS.due("README's Java compiles", failed, 0);
            if (failed == 0) {
                try (URLClassLoader loader = new URLClassLoader(new URL[] {place.toUri().toURL()})) {
                    loader.loadClass("ReadmeRun").getMethod("run", BiConsumer.class).invoke(null, due);
                }
            }
        } finally {
            remove(place);
        }
    }

    private static void remove(Path place) throws IOException {
        try (Stream<Path> files = Files.list(place)) {
            for (Path file : files.toList()) {
                Files.delete(file);
            }
        }
        Files.delete(place);
    }

    /** Whoever reads the page finds every call, class and test, and none that is not there. */
    private static void names(String page) throws IOException {
        CHECKS.holds("README says how the tests are run", page.contains("\n    .ci/run\n"));
        for (Method method : FishingKites.class.getDeclaredMethods()) {
            boolean isTold = page.contains("\n| `" + method.getName() + "(");
            CHECKS.holds("README's table has " + method.getName(), isTold || !Modifier.isPublic(method.getModifiers()));
        }
        for (Class<?> inside : FishingKites.class.getDeclaredClasses()) {
            CHECKS.holds("README has the class " + inside.getSimpleName(), page.contains("`" + inside.getSimpleName() + "`"));
        }
        Set<String> told = new TreeSet<>();
        Matcher tests = Pattern.compile("`([A-Za-z]+Tests)`").matcher(page);
        while (tests.find()) {
            told.add(tests.group(1));
        }
        Set<String> there = new TreeSet<>();
        try (Stream<Path> files = Files.list(TESTS)) {
            files.map(file -> file.getFileName().toString()).filter(name -> name.endsWith("Tests.java"))
                .forEach(name -> there.add(name.replace(".java", "")));
        }
        CHECKS.holds("README names the tests: " + told + " are " + there, told.equals(there));
    }
}
