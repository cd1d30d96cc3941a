import java.io.IOException;
import java.io.UncheckedIOException;
import java.lang.reflect.Method;
import java.lang.reflect.Modifier;
import java.nio.file.Files;
import java.nio.file.Path;
import java.nio.file.StandardCopyOption;
import java.util.ArrayList;
import java.util.Arrays;
import java.util.Comparator;
import java.util.List;
import java.util.Set;
import java.util.TreeSet;
import java.util.regex.Matcher;
import java.util.regex.Pattern;
import java.util.stream.Stream;

/**
 * What README.md says holds: the example gives the answers told beside it, the tables have the names there are, and the
 * command told for the tests runs all of them and fails if one fails.
 */
public final class ReadmeTest {
    private static final Due due = new Due();
    private static final Pattern ANSWERED = Pattern.compile("(?:int (\\w+) = )?(x\\..*?);\\s*// (-?\\d+)\\b.*");
    private static final Pattern NAME = Pattern.compile("`(\\w+)`");
    private static final List<String> STUBS = List.of("AlphaTest", "BetaTest", "Gamma", "Delta");
    private static final int WITHOUT_SHARED_TESTS = -2, ALL_FINE = -1;

    public static void main(String[] args) throws IOException {
        String readme = Files.readString(Path.of("README.md"));
        Path temporary = Files.createTempDirectory("readme");
        try {
            example(section(readme, "Use"), temporary.resolve("example"));
            calls(section(readme, "Use"));
            refusals(section(readme, "Use"));
            tests(section(readme, "Tests"));
            commands(section(readme, "Tests"), temporary);
        } finally {
            remove(temporary);
        }
        due.end();
    }

    private static void remove(Path folder) throws IOException {
        try (Stream<Path> all = Files.walk(folder)) {
            for (Path one : all.sorted(Comparator.reverseOrder()).toList()) {
                Files.delete(one);
            }
        }
    }

    private static String section(String readme, String heading) {
        int from = readme.indexOf("\n## " + heading + "\n");
        int to = readme.indexOf("\n## ", from + 1);
        due.is("there is a part " + heading, from >= 0 ? 1 : 0, 1);
        return from < 0 ? "" : to < 0 ? readme.substring(from) : readme.substring(from, to);
    }

    /** The lines between the fences of a sort; there must be one such block. */
    private static List<String> block(String section, String sort) {
        String[] parts = ("\n" + section).split("\n```" + sort + "\n", -1);
        due.is("blocks of " + sort, parts.length - 1, 1);
        return parts.length < 2 ? List.of() : List.of(parts[1].substring(0, parts[1].indexOf("\n```")).split("\n"));
    }

    // ---- how to use the class

    /** The example is compiled and run with a look at each answer that is told behind a call. */
    private static void example(String use, Path folder) throws IOException {
        StringBuilder lines = new StringBuilder();
        int answers = 0;
        for (String line : block(use, "java")) {
            Matcher matcher = ANSWERED.matcher(line);
            boolean isAnswered = matcher.matches();
            answers += isAnswered ? 1 : 0;
            due.is("the example tells the answer: " + line, isAnswered || !line.matches("(x\\.|int ).*") ? 1 : 0, 1);
            lines.append(isAnswered ? looked(matcher) : line).append('\n');
        }
        due.is("the example has answers", answers > 0 ? 1 : 0, 1);
        write(folder.resolve("Example.java"), "public final class Example {\n"
            + "private static void due(String call, long got, long want) {\n"
            + "if (got != want) { System.out.println(call + \" answered \" + got + \", README.md tells \" + want); System.exit(1); } }\n"
            + "public static void main(String[] args) {\n" + lines + "} }\n");
        Run compiled = run(folder, "javac", "-cp", System.getProperty("java.class.path"), "-d", ".", "Example.java");
        due.is("the example compiles: " + compiled.said, compiled.code, 0);
        Run ran = run(folder, "java", "-cp", System.getProperty("java.class.path") + ":.", "Example");
        due.is("the example answers as told: " + ran.said, ran.code, 0);
    }

    private static String looked(Matcher matcher) {
        String name = matcher.group(1) == null ? "" : matcher.group(1);
        String call = matcher.group(2);
        String got = name.isEmpty() ? call : name;
        return (name.isEmpty() ? "" : "int " + name + " = " + call + "; ") + "due(\"" + call + "\", " + got + ", " + matcher.group(3) + "L);";
    }

    /** The first cells of a table's rows, each with the rest of its row behind it. */
    private static List<String[]> rows(String section, String heading) {
        List<String[]> rows = new ArrayList<>();
        String table = section.substring(section.indexOf("| " + heading + " |") + 1);
        for (String line : table.substring(table.indexOf('\n') + 1).split("\n")) {
            if (!line.startsWith("|")) {
                break;
            }
            if (!line.startsWith("|---")) {
                rows.add(line.substring(1).split("\\|"));
            }
        }
        due.is("a table of " + heading, rows.isEmpty() ? 0 : 1, 1);
        return rows;
    }

    private static List<String> names(List<String[]> rows, int cell) {
        List<String> names = new ArrayList<>();
        for (String[] row : rows) {
            Matcher matcher = NAME.matcher(row[cell]);
            while (matcher.find()) {
                names.add(matcher.group(1));
            }
        }
        return names;
    }

    private static void areAlike(String what, List<String> told, Set<String> there) {
        due.is(what + ": README.md has " + told + ", there are " + there, new TreeSet<>(told).equals(there) ? 1 : 0, 1);
        due.is(what + ": each once", told.size(), there.size());
    }

    /** Each call of the face stands in the table, beside promises that follow one another from 1 to 46. */
    private static void calls(String use) {
        Set<String> face = new TreeSet<>();
        for (Method method : PennyALap.class.getDeclaredMethods()) {
            if (Modifier.isPublic(method.getModifiers())) {
                face.add(method.getName());
            }
        }
        List<String[]> rows = rows(use, "calls");
        areAlike("calls", names(rows, 0), face);
        // promise 1 is the constructor
        int promise = 1;
        for (String[] row : rows) {
            String[] ends = row[2].trim().split(" to ");
            due.is("the promises follow: " + row[2], Integer.parseInt(ends[0]), promise == 1 ? 1 : promise + 1);
            promise += names(List.<String[]>of(row), 0).size();
            due.is("as many calls as promises: " + row[2], Integer.parseInt(ends[1]), promise);
        }
        due.is("the last promise", promise, 46);
    }

    private static void refusals(String use) {
        List<String> told = new ArrayList<>();
        for (String[] row : rows(use, "number")) {
            told.add(row[0].trim() + row[1].replace('`', ' ').stripTrailing());
        }
        List<String> there = List.of(PennyALap.BAD + "  BAD", PennyALap.NOT + "  NOT", PennyALap.FULL + "  FULL", PennyALap.STATE + "  STATE",
            "-11", "-12", "-13", "-14");
        due.is("refusals: README.md has " + told, told.equals(there) ? 1 : 0, 1);
    }

    // ---- how to run the tests

    /** The table has each test, and each class with a main method has a name by which .ci/run finds it. */
    private static void tests(String tests) throws IOException {
        Set<String> there = new TreeSet<>();
        try (Stream<Path> files = Files.list(Path.of("src/test/java"))) {
            for (Path file : files.toList()) {
                if (Files.readString(file).contains("public static void main(")) {
                    there.add(file.getFileName().toString().replace(".java", ""));
                }
            }
        }
        for (String name : there) {
            due.is(name + " is found by its name", name.endsWith("Test") ? 1 : 0, 1);
        }
        areAlike("tests", names(rows(tests, "test"), 0), there);
    }

    /** The command is run in copies of the project that have two tests of their own and two shared ones, which tell that they ran. */
    private static void commands(String tests, Path folder) {
        List<String> commands = block(tests, "sh");
        due.is("one command runs all tests", commands.size(), 1);
        List<Integer> amiss = List.of(ALL_FINE, WITHOUT_SHARED_TESTS, 0, 1, 2, 3);
        List<Run> runs = amiss.parallelStream().map(which -> inCopy(folder.resolve("amiss" + which), String.join("\n", commands), which)).toList();
        for (int i = 0; i < runs.size(); i++) {
            Run run = runs.get(i);
            int which = amiss.get(i);
            String of = commands + (which >= 0 ? " where " + STUBS.get(which) + " fails" : which == ALL_FINE ? "" : " without shared tests");
            due.is(of + " ends well: " + run.said, run.code == 0 ? 1 : 0, which == ALL_FINE ? 1 : 0);
            for (String stub : which == WITHOUT_SHARED_TESTS ? STUBS.subList(0, 2) : STUBS) {
                due.is(of + " runs " + stub + ": " + run.said, run.said.contains("ran " + stub + "\n") ? 1 : 0, 1);
            }
        }
    }

    private static Run inCopy(Path folder, String commands, int amiss) {
        try {
            Path project = folder.resolve("main");
            Path script = project.resolve(".ci/run");
            Files.createDirectories(script.getParent());
            // whether it may be executed comes along
            Files.copy(Path.of(".ci/run"), script, StandardCopyOption.COPY_ATTRIBUTES);
            write(project.resolve("src/main/java/PennyALap.java"), "public final class PennyALap {\n}\n");
            Files.createDirectories(folder.resolve("shared/tests"));
            for (int i = 0; i < (amiss == WITHOUT_SHARED_TESTS ? 2 : STUBS.size()); i++) {
                Path tests = i < 2 ? project.resolve("src/test/java") : folder.resolve("shared/tests");
                write(tests.resolve(STUBS.get(i) + ".java"), stub(STUBS.get(i), i == amiss));
            }
            return run(project, "sh", "-c", commands);
        } catch (IOException e) {
            throw new UncheckedIOException(e);
        }
    }

    private static String stub(String name, boolean isAmiss) {
        return "public final class " + name + " {\n    public static void main(String[] args) {\n        System.out.println(\"ran " + name
            + "\");\n        System.exit(" + (isAmiss ? 1 : 0) + ");\n    }\n}\n";
    }

    // ---- files and processes

    /** A process that ended: its exit code, and all it printed. */
    private record Run(int code, String said) {
    }

    private static void write(Path file, String text) throws IOException {
        Files.createDirectories(file.getParent());
        Files.writeString(file, text);
    }

    private static Run run(Path folder, String... command) throws IOException {
        Process process = new ProcessBuilder(Arrays.asList(command)).directory(folder.toFile()).redirectErrorStream(true).start();
        String said = new String(process.getInputStream().readAllBytes());
        try {
            return new Run(process.waitFor(), said);
        } catch (InterruptedException e) {
            throw new IOException(e);
        }
    }
}
