import java.io.IOException;
import java.io.UncheckedIOException;
import java.lang.reflect.Method;
import java.lang.reflect.Modifier;
import java.net.URL;
import java.net.URLClassLoader;
import java.nio.file.Files;
import java.nio.file.Path;
import java.util.ArrayList;
import java.util.Comparator;
import java.util.List;
import java.util.Set;
import java.util.TreeSet;
import java.util.regex.Matcher;
import java.util.regex.Pattern;
import java.util.spi.ToolProvider;
import java.util.stream.Stream;

/** README.md says what is so; it is run from the project's folder. */
public final class ReadmeTest {
    private static final Pattern STATEMENT = Pattern.compile("(crown\\.\\w+\\(.*\\)); +// (-?\\d+): .*");
    private static final Pattern TEST = Pattern.compile("`(\\w+Test)`");
    private static final Pattern CLASS = Pattern.compile("`(\\w+)`");

    public static void main(String[] args) throws ReflectiveOperationException {
        Check.every(ReadmeTest.class);
    }

    private static List<String> lines(String file) throws IOException {
        return Files.readAllLines(Path.of(file));
    }

    /** The lines of the page between two lines. */
    private static List<String> between(String first, String last) throws IOException {
        List<String> all = lines("README.md");
        int from = all.indexOf(first) + 1;
        List<String> rest = all.subList(from, all.size());
        int length = rest.indexOf(last);
        return rest.subList(0, length < 0 ? rest.size() : length);
    }

    private static Set<String> found(Pattern pattern, List<String> lines) {
        Set<String> names = new TreeSet<>();
        for (String line : lines) {
            Matcher matcher = pattern.matcher(line.startsWith("| `") ? line.split("\\|")[1] : "");
            while (matcher.find()) {
                names.add(matcher.group(1));
            }
        }
        return names;
    }

    private static void same(String what, Set<String> got, Set<String> want) {
        Check.due(what + ": " + got + ", due are " + want, got.equals(want) && !want.isEmpty() ? 1 : 0, 1);
    }

    /** Each line of the example answers what stands behind it. */
    private static void example() throws IOException, ReflectiveOperationException {
        List<String> calls = new ArrayList<>();
        List<Long> due = new ArrayList<>();
        for (String line : between("```java", "```")) {
            Matcher statement = STATEMENT.matcher(line);
            if (statement.matches()) {
                calls.add(statement.group(1));
                due.add(Long.valueOf(statement.group(2)));
            } else {
                Check.due(line, line.equals("GlobeCrown crown = new GlobeCrown();") ? 1 : 0, 1);
            }
        }
        long[] answers = answers(calls);
        Check.due("lines of the example", answers.length, calls.size());
        for (int i = 0; i < answers.length; i++) {
            Check.due(calls.get(i), answers[i], due.get(i));
        }
    }

    /** Compiles the example as it stands, and runs it. */
    private static long[] answers(List<String> calls) throws IOException, ReflectiveOperationException {
        String code = "public final class Example { public static long[] answers() {"
                + " GlobeCrown crown = new GlobeCrown(); return new long[] {" + String.join(",\n", calls) + "}; } }";
        Path folder = Files.createTempDirectory("readme");
        try {
            Path source = Files.writeString(folder.resolve("Example.java"), code);
            String path = System.getProperty("java.class.path");
            ToolProvider javac = ToolProvider.findFirst("javac").orElseThrow();
            int end = javac.run(System.out, System.out, "-cp", path, "-d", folder.toString(), source.toString());
            Check.due("javac of the example", end, 0);
            try (URLClassLoader loader = new URLClassLoader(new URL[] {folder.toUri().toURL()})) {
                return end == 0 ? (long[]) loader.loadClass("Example").getMethod("answers").invoke(null) : new long[0];
            }
        } finally {
            remove(folder);
        }
    }

    private static void remove(Path folder) throws IOException {
        try (Stream<Path> files = Files.walk(folder)) {
            files.sorted(Comparator.reverseOrder()).forEach(file -> {
                try {
                    Files.delete(file);
                } catch (IOException e) {
                    throw new UncheckedIOException(e);
                }
            });
        }
    }

    /** "How to use the class": each call stands there with the number of things that it takes. */
    private static void calls() throws IOException {
        Set<String> got = new TreeSet<>();
        for (String call : found(Pattern.compile("`(\\w+\\([\\w, ]*\\))`"), between("| calls | what they are for |", ""))) {
            String inside = call.substring(call.indexOf('(') + 1, call.indexOf(')'));
            got.add(call.substring(0, call.indexOf('(')) + " " + (inside.isEmpty() ? 0 : inside.split(",").length));
        }
        Set<String> want = new TreeSet<>();
        for (Method method : GlobeCrown.class.getDeclaredMethods()) {
            if (Modifier.isPublic(method.getModifiers())) {
                want.add(method.getName() + " " + method.getParameterCount());
            }
        }
        same("calls", got, want);
    }

    private static void classes() throws IOException {
        Set<String> want = new TreeSet<>();
        for (Class<?> inside : GlobeCrown.class.getDeclaredClasses()) {
            want.add(inside.getSimpleName());
        }
        same("classes inside", found(CLASS, between("## Inside", "## Tests")), want);
    }

    private static Set<String> commands(List<String> lines) {
        Set<String> commands = new TreeSet<>();
        for (String line : lines) {
            String command = line.trim().split(" \\|\\| ")[0];
            if (command.startsWith("java ") || command.startsWith("javac ")) {
                commands.add(command);
            }
        }
        return commands;
    }

    /** "The commands that README.md names for the tests are those that .ci/run runs." */
    private static void commands() throws IOException {
        same("commands", commands(between("```sh", "```")), commands(lines(".ci/run")));
    }

    private static void tests() throws IOException {
        Set<String> want = new TreeSet<>();
        try (Stream<Path> files = Files.list(Path.of("src/test/java"))) {
            files.map(file -> file.getFileName().toString()).filter(name -> name.endsWith("Test.java"))
                    .forEach(name -> want.add(name.substring(0, name.length() - ".java".length())));
        }
        same("tests", found(TEST, between("| test | promises |", "")), want);
    }
}
