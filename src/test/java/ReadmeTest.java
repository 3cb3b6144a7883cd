import java.io.IOException;
import java.lang.reflect.Method;
import java.lang.reflect.Modifier;
import java.net.URL;
import java.net.URLClassLoader;
import java.nio.file.Files;
import java.nio.file.Path;
import java.util.ArrayList;
import java.util.List;
import java.util.regex.Matcher;
import java.util.regex.Pattern;
import javax.tools.JavaCompiler;
import javax.tools.ToolProvider;

/** README.md: its rows of code answer what stands behind them, and it names every call and every test there is. */
public final class ReadmeTest {
    private static final Check check = new Check();
    /** A call, perhaps kept by a name, and the number that it answers. */
    private static final Pattern CALL =
        Pattern.compile("(?:int (\\w+) = )?(valley\\.\\w+\\(.*\\));\\s*// (-?\\d+)\\b.*");

    public static void main(String[] args) throws Exception {
        String page = Files.readString(Path.of("README.md"));
        namesEveryCall(page);
        namesEveryTest(page);
        rowsOfCode(page);
        check.end();
    }

    private static void namesEveryCall(String page) {
        check.about("README.md names every call");
        for (Method m : OneNote.class.getDeclaredMethods()) {
            if (Modifier.isPublic(m.getModifiers())) {
                check.due(m.getName(), page.contains("`" + m.getName() + "`") ? 1 : 0, 1);
            }
        }
    }

    private static void namesEveryTest(String page) throws IOException {
        check.about("README.md names every test");
        int there = 0;
        try (var files = Files.list(Path.of("src/test/java"))) {
            for (Path file : files.filter(f -> f.toString().endsWith("Test.java")).toList()) {
                String name = file.getFileName().toString().replace(".java", "");
                check.due(name, page.contains("`" + name + "`") ? 1 : 0, 1);
                there++;
            }
        }
        Matcher named = Pattern.compile("`\\w+Test`").matcher(page);
        check.due("names of tests", named.results().map(r -> r.group()).distinct().count(), there);
    }

    private static void rowsOfCode(String page) throws Exception {
        check.about("README.md, a row of code");
        List<String> rows = new ArrayList<>();
        List<Long> answers = new ArrayList<>();
        String program = programOf(page, rows, answers);
        long[] got = run(program);
        check.due("rows with an answer", got.length, answers.size());
        check.due("there are some", rows.size() > 30 ? 1 : 0, 1);
        for (int i = 0; i < Math.min(got.length, answers.size()); i++) {
            check.due(rows.get(i), got[i], answers.get(i));
        }
    }

    /** All rows of Java on the page as one program that answers what the calls answered. */
    private static String programOf(String page, List<String> rows, List<Long> answers) {
        StringBuilder program = new StringBuilder("public final class Page { public static long[] answers() {\n");
        program.append("java.util.ArrayList<Long> got = new java.util.ArrayList<>();\n");
        Matcher block = Pattern.compile("(?s)```java\n(.*?)```").matcher(page);
        while (block.find()) {
            for (String row : block.group(1).split("\n")) {
                Matcher call = CALL.matcher(row);
                if (!call.matches()) {
                    program.append(row).append('\n');
                    continue;
                }
                rows.add(call.group(2));
                answers.add(Long.parseLong(call.group(3)));
                String asked = call.group(1) == null ? call.group(2) : call.group(1);
                if (call.group(1) != null) {
                    program.append("int ").append(asked).append(" = ").append(call.group(2)).append(";\n");
                }
                program.append("got.add((long) ").append(asked).append(");\n");
            }
        }
        return program.append("return got.stream().mapToLong(Long::longValue).toArray(); } }\n").toString();
    }

    private static long[] run(String program) throws Exception {
        JavaCompiler compiler = ToolProvider.getSystemJavaCompiler();
        Path folder = Files.createTempDirectory("page");
        Path source = folder.resolve("Page.java");
        Files.writeString(source, program);
        String classes = System.getProperty("java.class.path");
        int result = compiler == null ? 1
            : compiler.run(null, null, null, "-cp", classes, "-d", folder.toString(), source.toString());
        check.due("the rows compile", result, 0);
        long[] got = {};
        if (result == 0) {
            try (URLClassLoader loader = new URLClassLoader(new URL[] {folder.toUri().toURL()})) {
                got = (long[]) loader.loadClass("Page").getMethod("answers").invoke(null);
            }
        }
        for (String file : new String[] {"Page.java", "Page.class"}) {
            Files.deleteIfExists(folder.resolve(file));
        }
        Files.deleteIfExists(folder);
        return got;
    }
}
