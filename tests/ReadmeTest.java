import java.io.ByteArrayOutputStream;
import java.io.IOException;
import java.io.PrintStream;
import java.lang.reflect.Method;
import java.net.URL;
import java.net.URLClassLoader;
import java.nio.charset.StandardCharsets;
import java.nio.file.Files;
import java.nio.file.Path;
import java.nio.file.Paths;
import java.util.ArrayList;
import java.util.List;
import java.util.Set;
import java.util.TreeSet;
import java.util.regex.Matcher;
import java.util.regex.Pattern;
import java.util.stream.Stream;
import javax.tools.ToolProvider;

/** README.md says what there is: its example runs and prints as shown; calls, constants, tests are those that there are. */
public final class ReadmeTest {
    private static int wrong;
    private static String page;

    public static void main(String[] args) throws Exception {
        Watch.begin("ReadmeTest");
        page = textOf("README.md");
        example();
        calls();
        answers();
        tests();
        System.out.println(wrong == 0 ? "ReadmeTest: all as it should be" : "ReadmeTest: " + wrong + " faults");
        if (wrong > 0) {
            System.exit(1);
        }
    }

    private static String textOf(String file) throws IOException {
        return new String(Files.readAllBytes(Paths.get(file)), StandardCharsets.UTF_8);
    }

    private static void same(String what, Object due, Object is) {
        if (!due.equals(is)) {
            wrong++;
            System.out.println(what + ": README.md has\n" + is + "\ndue is\n" + due);
        }
    }

    private static List<String> found(String pattern, String text) {
        List<String> all = new ArrayList<>();
        Matcher m = Pattern.compile(pattern).matcher(text);
        while (m.find()) {
            all.add(m.group(1));
        }
        return all;
    }

    // ---- the example, as it stands there

    private static void example() throws Exception {
        String program = found("(?s)```java\n(.*?)```", page).get(0);
        String shown = found("(?s)```text\n(.*?)```", page).get(0);
        Path out = Files.createTempDirectory("readme");
        Path file = out.resolve("Overheard.java");
        Files.write(file, program.getBytes(StandardCharsets.UTF_8));
        String classes = System.getProperty("java.class.path");
        int failed = ToolProvider.getSystemJavaCompiler()
            .run(null, null, null, "-cp", classes, "-d", out.toString(), file.toString());
        same("the example compiles", 0, failed);
        if (failed == 0) {
            same("what the example prints", printedBy(out), shown);
        }
        try (Stream<Path> made = Files.list(out)) {
            made.forEach(one -> one.toFile().delete());
        }
        Files.delete(out);
    }

    private static String printedBy(Path out) throws Exception {
        PrintStream before = System.out;
        ByteArrayOutputStream printed = new ByteArrayOutputStream();
        try (URLClassLoader loader = new URLClassLoader(new URL[] {out.toUri().toURL()})) {
            System.setOut(new PrintStream(printed, true));
            Method main = loader.loadClass("Overheard").getMethod("main", String[].class);
            main.invoke(null, (Object) new String[0]);
        } finally {
            System.setOut(before);
        }
        return printed.toString().replace(System.lineSeparator(), "\n");
    }

    // ---- the calls, in the document's order and with its names of numbers

    private static void calls() throws IOException {
        List<String> due = new ArrayList<>();
        for (String call : found("    public ((?:int |long )?\\w+\\([^)]*\\));", textOf("../shared/DOC.md"))) {
            due.add(call.replaceAll("\\b(int|long) ", ""));
        }
        same("how many calls the document has", 44, due.size());
        same("the calls", due, found("(?m)^\\| `(\\w+\\([^)]*\\))` \\|", page));
        String noted = "at most 512 calls";
        same("how many calls an object is used for", true, page.contains(noted));
    }

    // ---- the answers below 0

    private static void answers() throws IllegalAccessException, NoSuchFieldException {
        for (String name : new String[] {"BAD", "NOT", "FULL", "STATE"}) {
            int value = StyliteOverheard.class.getField(name).getInt(null);
            same(name, true, page.contains("| " + value + " | `" + name + "` |"));
        }
        same("VOID", true, page.contains("`VOID` (" + StyliteOverheard.VOID + ")"));
        for (int refusal = -14; refusal <= -11; refusal++) {
            same("the host's refusal", true, page.contains("| " + refusal + " | |"));
        }
    }

    // ---- the tests

    private static void tests() throws IOException {
        Set<String> due = new TreeSet<>();
        try (Stream<Path> files = Files.list(Paths.get("tests"))) {
            files.map(file -> file.getFileName().toString()).filter(name -> name.endsWith("Test.java"))
                .forEach(name -> due.add(name.replace(".java", "")));
        }
        same("the tests", due, new TreeSet<>(found("(?m)^\\| `(\\w+Test)` \\|", page)));
        for (String command : found("(?m)^    (\\.ci/run \\w.*)$", page)) {
            for (String name : command.substring(".ci/run ".length()).split(" ")) {
                boolean is = Files.exists(Paths.get("tests/" + name + ".java"))
                    || Files.exists(Paths.get("../shared/tests/" + name + ".java"));
                same("a test " + name, true, is);
            }
        }
    }
}
