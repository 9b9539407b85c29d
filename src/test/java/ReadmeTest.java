import java.io.ByteArrayOutputStream;
import java.io.IOException;
import java.io.PrintStream;
import java.lang.reflect.Method;
import java.net.URL;
import java.net.URLClassLoader;
import java.nio.charset.StandardCharsets;
import java.nio.file.Files;
import java.nio.file.Path;
import java.util.Arrays;
import java.util.LinkedHashMap;
import java.util.Map;
import java.util.regex.Matcher;
import java.util.regex.Pattern;
import javax.tools.ToolProvider;

/** What README.md tells is so: its program, its table of calls, its numbers below 0, its tests. */
public final class ReadmeTest {
    private static final Due DUE = new Due();

    public static void main(String[] args) throws Exception {
        String page = Files.readString(Path.of("README.md"));
        program(page);
        callsAsInTheDocument(page);
        refusals(page);
        example(page);
        faults(page);
        tests(page);
        DUE.close();
    }

    private static void isThere(String page, String words) {
        DUE.due("in README.md: " + words, page.contains(words) ? 1 : 0, 1);
    }

    private static String block(String page, String kind) {
        Matcher found = Pattern.compile("(?s)```" + kind + "\n(.*?)```").matcher(page);
        return found.find() ? found.group(1) : "";
    }

    /** The program compiles beside the class and prints what the page says. */
    private static void program(String page) throws Exception {
        Path folder = Files.createTempDirectory("readme");
        Path source = folder.resolve("Night.java");
        Files.writeString(source, block(page, "java"));
        int made = ToolProvider.getSystemJavaCompiler().run(null, null, null, "-d", folder.toString(),
                "src/main/java/AskedCamp.java", source.toString());
        DUE.due("the program compiles", made, 0);
        ByteArrayOutputStream printed = new ByteArrayOutputStream();
        PrintStream before = System.out;
        try (URLClassLoader loader = new URLClassLoader(new URL[] {folder.toUri().toURL()}, null)) {
            Method main = loader.loadClass("Night").getMethod("main", String[].class);
            System.setOut(new PrintStream(printed, true));
            main.invoke(null, (Object) new String[0]);
        } finally {
            System.setOut(before);
            remove(folder);
        }
        String got = printed.toString(StandardCharsets.UTF_8).replace("\r", "");
        String want = block(page, "text");
        DUE.due("the program prints\n" + got + "and not\n" + want, got.equals(want) ? 1 : 0, 1);
    }

    private static void remove(Path folder) throws IOException {
        try (var files = Files.list(folder)) {
            for (Path file : (Iterable<Path>) files::iterator) {
                Files.delete(file);
            }
        }
        Files.delete(folder);
    }

    /** By call the last column of its row. */
    private static Map<String, String> rows(String page) {
        Map<String, String> rows = new LinkedHashMap<>();
        Matcher row = Pattern.compile("(?m)^\\| `(\\w+\\([^)]*\\))` \\| .* \\| *(-?\\d*) *\\|$").matcher(page);
        while (row.find()) {
            rows.put(row.group(1), row.group(2));
        }
        return rows;
    }

    private static void callsAsInTheDocument(String page) throws IOException {
        Map<String, String> rows = rows(page);
        String document = Files.readString(Path.of("../shared/DOC.md"));
        Matcher call = Pattern.compile("(?m)^    public int (\\w+\\([^)]*\\));$").matcher(document);
        int calls = 0;
        while (call.find()) {
            String due = call.group(1).replace("int ", "");
            DUE.due("a row for " + due, rows.containsKey(due) ? 1 : 0, 1);
            calls++;
        }
        DUE.due("rows", rows.size(), calls);
    }

    /** Numbers far below all that is allowed are refused as the table says. */
    private static void refusals(String page) throws ReflectiveOperationException {
        Map<String, String> rows = rows(page);
        for (Method method : AskedCamp.class.getDeclaredMethods()) {
            for (Map.Entry<String, String> row : rows.entrySet()) {
                if (row.getKey().startsWith(method.getName() + "(") && !row.getValue().isEmpty()) {
                    AskedCamp x = new AskedCamp();
                    if (method.getParameterCount() > 0) {
                        Tape.camp(x, "camp 3 0;tent 8 5");
                    }
                    // any number can be fed, as long as there is room
                    Tape.put(x, method.getName().equals("feed") ? Tape.padded("", 400) : "");
                    Object[] far = new Object[method.getParameterCount()];
                    Arrays.fill(far, Integer.MIN_VALUE);
                    DUE.due(row.getKey(), (Integer) method.invoke(x, far), Integer.parseInt(row.getValue()));
                }
            }
        }
    }

    private static void faults(String page) {
        isThere(page, "place = (-answer - 3) / 8");
        isThere(page, "kind  = (-answer - 3) % 8");
        isThere(page, "answers -124: place 15, kind 1,");
        String deep = "go 1 if " + "[".repeat(11);
        fault(Tape.camp(new AskedCamp(), ""), 0, 0);
        fault(Tape.camp(new AskedCamp(), "camp 3 0; tent 9 5"), 15, 1);
        fault(Tape.rule(new AskedCamp(), deep), 18, 2);
        fault(Tape.rule(new AskedCamp(), "go " + "1+".repeat(60) + "1"), 123, 3);
        fault(Tape.camp(new AskedCamp(), "bush 0"), 0, 4);
    }

    /** The RULE that the page tells as an example is one. */
    private static void example(String page) {
        Matcher rule = Pattern.compile("For example: `([^`]*)`").matcher(page);
        DUE.due("an example of a RULE", rule.find() ? Tape.rule(new AskedCamp(), rule.group(1)) : -1, 0);
    }

    private static void fault(int answer, int place, int kind) {
        DUE.due("the place of " + answer, (-answer - 3) / 8, place);
        DUE.due("the kind of " + answer, (-answer - 3) % 8, kind);
    }

    /** No test is left out. */
    private static void tests(String page) throws IOException {
        try (var files = Files.list(Path.of("src/test/java"))) {
            for (Path file : (Iterable<Path>) files::iterator) {
                String name = file.getFileName().toString().replace(".java", "");
                DUE.due("README.md tells of " + name, Pattern.compile("\\b" + name + "\\b").matcher(page).find() ? 1 : 0, 1);
            }
        }
    }
}
