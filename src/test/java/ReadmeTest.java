import java.io.IOException;
import java.lang.reflect.InvocationTargetException;
import java.lang.reflect.Method;
import java.nio.file.Files;
import java.nio.file.Path;
import java.util.ArrayList;
import java.util.Arrays;
import java.util.Comparator;
import java.util.LinkedHashMap;
import java.util.List;
import java.util.Map;
import java.util.Random;
import java.util.Set;
import java.util.TreeSet;
import java.util.concurrent.TimeUnit;
import java.util.regex.Matcher;
import java.util.regex.Pattern;
import java.util.stream.Stream;

/** README.md, tried: its program and commands, its lists of calls, the tests that it names, what it says of .ci/run. */
public final class ReadmeTest {
    private static final Path MAIN = Path.of("src/main/java/PointLayers.java");
    private static final Path TESTS = Path.of("src/test/java");
    private static final Pattern BLOCK = Pattern.compile("(?s)```(\\w+)\n(.*?)```");
    private static final Pattern ROW = Pattern.compile("\\| `(\\w+)\\(([^)]*)\\)` \\| (U )?\\| [^|]+ \\| ([^|]*)\\|");
    private static final Pattern CALL = Pattern.compile("    public (?:int|long) (\\w+)\\(([^)]*)\\) \\{");
    private static final int[] TRIED = {-500, 500, 0, 1, 2, 3, 4, 5, 7, 8, 15, 16, 20, 30, 31, 60, 61, 64, 100, 127, 128,
        300, 301, 501, -1, -2, -501, 9999, 999999, 1000000, Integer.MAX_VALUE, Integer.MIN_VALUE};
    private static final Due D = new Due();

    public static void main(String[] args) throws IOException, InterruptedException, ReflectiveOperationException {
        String page = Files.readString(Path.of("README.md"));
        Path room = Files.createTempDirectory("readme");
        try {
            commands(page, room.resolve("commands"));
            lists(page);
            answers(page);
            testsNamed(page);
            ci(room);
        } finally {
            remove(room);
        }
        D.end();
    }

    private static List<String> blocks(String page, String language) {
        List<String> found = new ArrayList<>();
        Matcher m = BLOCK.matcher(page);
        while (m.find()) {
            if (m.group(1).equals(language)) {
                found.add(m.group(2));
            }
        }
        return found;
    }

    /** The program prints what is told behind its lines; the other commands end well. */
    private static void commands(String page, Path at) throws IOException, InterruptedException {
        D.promise("README, its program and commands");
        copy(Path.of("src"), at.resolve("src"));
        List<String> programs = blocks(page, "java");
        List<String> commands = blocks(page, "sh");
        D.due("programs", programs.size(), 1);
        D.due("commands", commands.size(), 3);
        D.holds("the second are those of all tests", commands.get(1).equals("bash .ci/run\n"));
        Files.writeString(at.resolve("Example.java"), programs.get(0));
        Ran example = Ran.start(at, commands.get(0));
        Ran alone = Ran.start(at, commands.get(2).replace("-d out", "-d alone").replace("-cp out", "-cp alone"));
        example.endsWith("the program", 0);
        List<String> due = new ArrayList<>();
        Matcher m = Pattern.compile("System\\.out\\.println\\(.*\\);\\s+// (-?\\d+)\\b").matcher(programs.get(0));
        while (m.find()) {
            due.add(m.group(1));
        }
        D.due("lines that print", due.size(), programs.get(0).split("println").length - 1);
        D.holds("due " + due + ", printed " + example.lines(), due.equals(example.lines()));
        alone.endsWith("one test alone", 0);
        D.holds("it says so", alone.last().endsWith(" 0 not as due"));
    }

    /** Each call once, in the order of the class, with its own names for what it is given. */
    private static void lists(String page) throws IOException {
        D.promise("README, its lists of calls");
        List<String> is = new ArrayList<>();
        Matcher row = ROW.matcher(page);
        while (row.find()) {
            is.add(row.group(1) + "(" + row.group(2) + ")");
        }
        List<String> due = new ArrayList<>();
        parametersOfCalls().forEach((name, given) -> due.add(name + "(" + String.join(", ", given) + ")"));
        D.due("calls", due.size(), 36);
        D.holds("listed " + is + ", due " + due, is.equals(due));
        Map<String, Integer> constants = Map.of("NONE", PointLayers.NONE, "BAD", PointLayers.BAD, "NO", PointLayers.NO,
            "FULL", PointLayers.FULL);
        constants.forEach((name, value) -> D.holds(name, page.contains("`PointLayers." + name + "` (" + value + ")")));
    }

    private static Map<String, List<String>> parametersOfCalls() throws IOException {
        Map<String, List<String>> all = new LinkedHashMap<>();
        Matcher m = CALL.matcher(Files.readString(MAIN));
        while (m.find()) {
            String given = m.group(2).replace("int ", "");
            all.put(m.group(1), given.isEmpty() ? List.of() : List.of(given.split(", ")));
        }
        return all;
    }

    /** What a call is told to answer instead, and its U, are what is seen when it is made in many ways. */
    private static void answers(String page) throws IOException, ReflectiveOperationException {
        Map<String, List<String>> parameters = parametersOfCalls();
        Map<String, Method> methods = new LinkedHashMap<>();
        for (Method m : PointLayers.class.getDeclaredMethods()) {
            methods.put(m.getName(), m);
        }
        Matcher row = ROW.matcher(page);
        while (row.find()) {
            String name = row.group(1);
            D.promise("README, " + name);
            Set<String> told = new TreeSet<>(Arrays.asList(row.group(4).trim().replace("`", "").split(", ")));
            told.remove("");
            List<String> given = parameters.getOrDefault(name, List.of());
            Tried tried = new Tried();
            for (Case.Made state : states()) {
                tried.look(state, methods.get(name), given);
            }
            D.holds("answers " + tried.instead + ", told are " + told, tried.instead.equals(told));
            D.due("is U", tried.undone ? 1 : 0, row.group(3) != null ? 1 : 0);
        }
    }

    private static List<Case.Made> states() {
        return List.of(Case.NEW, Case.RICH, Case.SIXTY, Case.numbersGiven(10000), Case.putAt(3, 3, 4, 5),
            Case.and(Case.RICH, p -> Due.write(p, " ".repeat(120))));
    }

    /** What was seen of one call, made often. */
    private static final class Tried {
        private static final int TIMES = 1000;

        final Set<String> instead = new TreeSet<>();
        boolean undone;
        private final Random random = new Random(1);

        void look(Case.Made state, Method call, List<String> parameters) throws ReflectiveOperationException {
            PointLayers p = Case.after(state);
            for (int i = 0; i < TIMES; i++) {
                int known = p.size(5);
                Object[] given = given(parameters);
                try {
                    add(call.getName(), ((Number) call.invoke(p, given)).longValue());
                } catch (InvocationTargetException e) {
                    D.holds(Arrays.toString(given) + " threw " + e.getCause(), false);
                }
                undone |= p.size(5) > known;
            }
        }

        private void add(String call, long answer) {
            if (answer == Due.NONE || answer == Due.BAD || answer == Due.NO || answer == Due.FULL) {
                instead.add(new String[] {"NONE", "BAD", "NO", "FULL"}[(int) (Due.NONE - answer)]);
            } else if (call.equals("area") && answer <= -10) {
                instead.add("-10 less the place of the fault");
            } else if (call.equals("status") && answer == -1) {
                instead.add("-1");
            }
        }

        private Object[] given(List<String> parameters) {
            Object[] given = new Object[parameters.size()];
            Arrays.setAll(given, i -> TRIED[random.nextInt(TRIED.length)]);
            int first = parameters.indexOf("a");
            if (first >= 0 && random.nextBoolean()) {
                int[] field = {-500, 500, -500, 500};
                for (int i = 0; i < 4; i++) {
                    given[first + i] = field[i];
                }
            }
            return given;
        }
    }

    /** Each file of the tests is named, and each name of one is a file's. */
    private static void testsNamed(String page) throws IOException {
        D.promise("README, its tests");
        try (Stream<Path> files = Files.list(TESTS)) {
            for (Path file : files.sorted().toList()) {
                String name = file.getFileName().toString().replace(".java", "");
                D.holds(name + " is named", page.contains("`" + name + "`"));
            }
        }
        Matcher m = Pattern.compile("`(\\w+(?:Test|Bounds))`").matcher(page);
        while (m.find()) {
            D.holds(m.group(1) + " is there", Files.exists(TESTS.resolve(m.group(1) + ".java")));
        }
    }

    /** .ci/run beside tests that pass, fail, do not compile, are not there. */
    private static void ci(Path room) throws IOException, InterruptedException {
        D.promise("README, .ci/run");
        Ran good = ci(room.resolve("good"), exits("OwnTest", 0), exits("Runs", 0));
        Ran own = ci(room.resolve("own"), exits("OwnTest", 1), exits("Runs", 0));
        Ran shared = ci(room.resolve("shared"), exits("OwnTest", 0), exits("Runs", 1));
        Ran broken = ci(room.resolve("broken"), "public class OwnTest {", exits("Runs", 0));
        Ran none = ci(room.resolve("none"), exits("OwnTest", 0), null);
        saysSo("all pass", good, 0, "2 passed, 0 failed", null);
        saysSo("an own test fails", own, 1, "1 passed, 1 failed", "FAILED: OwnTest");
        saysSo("a shared test fails", shared, 1, "1 passed, 1 failed", "FAILED: Runs");
        saysSo("an own test does not compile", broken, 1, "1 passed, 1 failed", "FAILED: OwnTest");
        saysSo("there is no shared test", none, 1, "1 passed, 1 failed", "FAILED: no test under ../shared/tests");
    }

    private static void saysSo(String what, Ran ran, int exit, String last, String failed)
        throws IOException, InterruptedException {
        ran.endsWith(what, exit);
        D.holds(what + ", says how many: " + ran.last(), ran.last().equals(last));
        D.holds(what + ", says which", failed == null ? ran.lines().stream().noneMatch(s -> s.startsWith("FAILED"))
            : ran.lines().contains(failed));
    }

    private static String exits(String name, int exit) {
        return "public class " + name + " { public static void main(String[] args) { System.exit(" + exit + "); } }";
    }

    private static Ran ci(Path at, String own, String shared) throws IOException {
        Path project = at.resolve("main");
        copy(Path.of(".ci"), project.resolve(".ci"));
        write(project.resolve(MAIN), "public final class PointLayers { }");
        write(project.resolve(TESTS).resolve("OwnTest.java"), own);
        if (shared != null) {
            write(at.resolve("shared/tests/Runs.java"), shared);
        }
        return Ran.start(project, "bash .ci/run");
    }

    private static void write(Path file, String text) throws IOException {
        Files.createDirectories(file.getParent());
        Files.writeString(file, text);
    }

    private static void copy(Path from, Path to) throws IOException {
        try (Stream<Path> all = Files.walk(from)) {
            for (Path path : all.toList()) {
                Path there = to.resolve(from.relativize(path).toString());
                if (Files.isDirectory(path)) {
                    Files.createDirectories(there);
                } else {
                    Files.copy(path, there);
                }
            }
        }
    }

    private static void remove(Path room) throws IOException {
        try (Stream<Path> all = Files.walk(room)) {
            for (Path path : all.sorted(Comparator.reverseOrder()).toList()) {
                Files.delete(path);
            }
        }
    }

    /** Commands that run beside the others until their end is asked for. */
    private record Ran(Process process, Path printed, Path errors) {
        private static final int MINUTES_MOST = 5;

        static Ran start(Path at, String commands) throws IOException {
            Path printed = Files.createTempFile(at, "printed", ".txt");
            Path errors = Files.createTempFile(at, "errors", ".txt");
            ProcessBuilder builder = new ProcessBuilder("bash", "-e", "-c", commands).directory(at.toFile());
            builder.redirectOutput(printed.toFile()).redirectError(errors.toFile());
            return new Ran(builder.start(), printed, errors);
        }

        void endsWith(String what, int exit) throws IOException, InterruptedException {
            boolean ended = process.waitFor(MINUTES_MOST, TimeUnit.MINUTES);
            if (!ended) {
                process.destroyForcibly().waitFor();
            }
            D.holds(what + " ends", ended);
            D.due(what, process.exitValue(), exit);
            if (process.exitValue() != exit) {
                System.out.println(String.join("\n", lines()) + "\n" + Files.readString(errors));
            }
        }

        List<String> lines() throws IOException {
            return Files.readAllLines(printed);
        }

        String last() throws IOException {
            return lines().isEmpty() ? "" : lines().get(lines().size() - 1);
        }
    }
}
