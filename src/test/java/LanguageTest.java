import java.io.IOException;
import java.io.PrintWriter;
import java.io.StringWriter;
import java.lang.reflect.Field;
import java.lang.reflect.Method;
import java.lang.reflect.Modifier;
import java.nio.file.Files;
import java.nio.file.Path;
import java.util.ArrayList;
import java.util.HashMap;
import java.util.List;
import java.util.Map;
import java.util.Optional;
import java.util.Set;
import java.util.TreeSet;
import java.util.regex.Matcher;
import java.util.regex.Pattern;
import java.util.spi.ToolProvider;

/** What can be looked after of ../shared/LANGUAGE.md; it is run from the project's folder. */
public final class LanguageTest {
    private static final Path SOURCE = Path.of("src/main/java/GlobeCrown.java");
    private static final Pattern FORBIDDEN = Pattern.compile("\\b(import|package|try|catch|finally|throw|throws|assert"
            + "|synchronized|native|volatile|transient|protected|var|Object|\\w+Exact)\\b|->|::|static \\{");
    private static final Pattern LIBRARY = Pattern.compile("\\b(System|Math|Integer|Long|Arrays|String)\\.(\\w+)");
    private static final Set<String> ALLOWED = Set.of("System.arraycopy", "Math.min", "Math.max", "Math.abs",
            "Integer.bitCount", "Integer.numberOfTrailingZeros");
    private static final Pattern METHOD = Pattern.compile("^  \\S.*?([\\w$]+)\\(.*\\);$");
    private static final Pattern CALL = Pattern.compile("invoke\\w+ .*// Method (?:([\\w$]+)\\.)?\"?([\\w<>$]+)\"?:");

    public static void main(String[] args) throws ReflectiveOperationException {
        Check.every(LanguageTest.class);
    }

    private static List<Class<?>> classes() {
        List<Class<?>> all = new ArrayList<>(List.of(GlobeCrown.class));
        all.addAll(List.of(GlobeCrown.class.getDeclaredClasses()));
        return all;
    }

    private static String code() throws IOException {
        String text = Files.readString(SOURCE);
        return text.replaceAll("(?s)/\\*.*?\\*/", "").replaceAll("//[^\n]*", "").replaceAll("'.'", "0");
    }

    /** Rules 3, 4 and 6: no library but what is listed, and nothing that is thrown or caught. */
    private static void words() throws IOException {
        Matcher forbidden = FORBIDDEN.matcher(code());
        while (forbidden.find()) {
            Check.due("'" + forbidden.group() + "' stands in the class", 1, 0);
        }
        Matcher library = LIBRARY.matcher(code());
        while (library.find()) {
            Check.due(library.group() + " is used", ALLOWED.contains(library.group()) ? 0 : 1, 0);
        }
    }

    /** Rule 5: static fields are final numbers. */
    private static void staticFields() {
        for (Class<?> type : classes()) {
            for (Field field : type.getDeclaredFields()) {
                boolean isFine = Modifier.isFinal(field.getModifiers()) && field.getType().isPrimitive();
                Check.due(field + " is static", Modifier.isStatic(field.getModifiers()) && !isFine ? 1 : 0, 0);
            }
        }
    }

    /** Rule 11: twelve classes, twenty fields, seven parameters. */
    private static void sizes() {
        Check.due(classes().size() + " classes are too many", classes().size() <= 12 ? 0 : 1, 0);
        for (Class<?> type : classes()) {
            int fields = 0;
            for (Field field : type.getDeclaredFields()) {
                fields += Modifier.isStatic(field.getModifiers()) ? 0 : 1;
            }
            Check.due(fields + " fields of " + type + " are too many", fields <= 20 ? 0 : 1, 0);
            for (Method method : type.getDeclaredMethods()) {
                Check.due(method + " takes too many", method.getParameterCount() <= 7 ? 0 : 1, 0);
            }
        }
    }

    /** Rule 11: methods of sixty lines at most. */
    private static void lines() throws IOException {
        int start = -1;
        String end = "";
        List<String> all = Files.readAllLines(SOURCE);
        for (int i = 0; i < all.size(); i++) {
            String line = all.get(i);
            if (start < 0 && line.matches("\\s+[\\w\\[\\] ]+\\(.*\\) \\{") && !line.matches("\\s+(if|for|switch).*")) {
                start = i;
                end = line.substring(0, line.indexOf(line.trim())) + "}";
            } else if (start >= 0 && line.equals(end)) {
                Check.due(all.get(start).trim() + " has " + (i - start + 1) + " lines", i - start < 60 ? 0 : 1, 0);
                start = -1;
            }
        }
    }

    private static String disassembled(ToolProvider javap, Class<?> type) {
        StringWriter text = new StringWriter();
        PrintWriter out = new PrintWriter(text);
        String path = System.getProperty("java.class.path");
        Check.due("javap", javap.run(out, out, "-c", "-p", "-cp", path, type.getName()), 0);
        out.flush();
        return text.toString();
    }

    private static Map<String, Set<String>> calls(ToolProvider javap) {
        Map<String, Set<String>> calls = new HashMap<>();
        for (Class<?> type : classes()) {
            String from = null;
            for (String line : disassembled(javap, type).split("\n")) {
                Matcher method = METHOD.matcher(line);
                Matcher call = CALL.matcher(line);
                if (method.matches()) {
                    from = type.getName() + "." + method.group(1);
                } else if (call.find() && from != null) {
                    String owner = call.group(1) == null ? type.getName() : call.group(1);
                    String name = call.group(2).equals("<init>") ? owner : call.group(2);
                    calls.computeIfAbsent(from, key -> new TreeSet<>()).add(owner + "." + name);
                }
            }
        }
        return calls;
    }

    private static int depth(Map<String, Set<String>> calls, String method, int open) {
        if (open > 40) {
            return open;
        }
        int deepest = open;
        for (String called : calls.getOrDefault(method, Set.of())) {
            deepest = Math.max(deepest, depth(calls, called, open + 1));
        }
        return deepest;
    }

    /** Rule 11: calls go at most eight deep, the call of the face being the first; rule 8: there is no recursion. */
    private static void depths() {
        Optional<ToolProvider> javap = ToolProvider.findFirst("javap");
        if (javap.isEmpty()) {
            System.out.println("without javap the depth of calls is not looked at");
            return;
        }
        Map<String, Set<String>> calls = calls(javap.get());
        Check.due("calls are found", calls.size() > 30 ? 1 : 0, 1);
        int deepest = 0;
        for (Method method : GlobeCrown.class.getDeclaredMethods()) {
            int depth = depth(calls, "GlobeCrown." + method.getName(), 1);
            deepest = Math.max(deepest, depth);
            Check.due(method.getName() + " goes " + depth + " deep", depth <= 8 ? 0 : 1, 0);
        }
        Check.due("some call goes deeper than four", deepest > 4 ? 1 : 0, 1);
    }
}
