import java.io.IOException;
import java.lang.reflect.Field;
import java.lang.reflect.Method;
import java.lang.reflect.Modifier;
import java.net.URL;
import java.net.URLClassLoader;
import java.nio.file.Files;
import java.nio.file.Path;
import java.util.ArrayList;
import java.util.List;
import java.util.function.BiConsumer;
import java.util.regex.Matcher;
import java.util.regex.Pattern;
import javax.tools.ToolProvider;

/** The calls that README.md shows are made, in their order, and answer what it says behind them. */
public final class ReadmeTest {
    private static final Checks C = new Checks("ReadmeTest");
    private static final Path README = Path.of("README.md");
    private static final Path TESTS = Path.of("src/test/java");
    private static final Pattern CALL = Pattern.compile("(x\\.\\w+\\(.*\\)); +// (-?\\w+)(?:: .+)?");

    public static void main(String[] args) throws Exception {
        List<String> page = Files.readAllLines(README);
        List<String> shown = shown(page);
        answersAreAsSaid(shown);
        everythingIsShown(shown);
        everyTestIsNamed(String.join("\n", page));
        C.end();
    }

    /** The lines between the marks of Java code. */
    private static List<String> shown(List<String> page) {
        List<String> lines = new ArrayList<>();
        boolean inside = false;
        for (String line : page) {
            if (line.startsWith("```")) {
                inside = line.equals("```java");
            } else if (inside) {
                lines.add(line);
            }
        }
        return lines;
    }

    /** The lines are compiled as they stand, so that a reader can copy them. */
    private static void answersAreAsSaid(List<String> shown) throws Exception {
        List<String> calls = new ArrayList<>();
        List<String> said = new ArrayList<>();
        StringBuilder body = new StringBuilder();
        for (String line : shown) {
            Matcher call = CALL.matcher(line);
            if (call.matches()) {
                body.append("told.accept(").append(calls.size()).append(", (long) ").append(call.group(1)).append(");\n");
                calls.add(call.group(1));
                said.add(call.group(2));
            } else {
                C.isTrue("the call tells its answer: " + line, !line.startsWith("x."));
                body.append(line).append('\n');
            }
        }
        List<Integer> told = new ArrayList<>();
        run(body.toString(), (n, answer) -> {
            told.add(n);
            C.due(calls.get(n) + " (call " + n + " of README.md)", answer, number(said.get(n)));
        });
        C.due("calls that were made", told.size(), calls.size());
    }

    private static long number(String said) {
        switch (said) {
            case "NONE": return PalletNets.NONE;
            case "BAD": return PalletNets.BAD;
            case "NO": return PalletNets.NO;
            case "FULL": return PalletNets.FULL;
            default: return said.startsWith("0b") ? Long.parseLong(said.substring(2), 2) : Long.decode(said);
        }
    }

    private static void run(String body, BiConsumer<Integer, Long> told) throws Exception {
        Path dir = Files.createTempDirectory("readme");
        Path source = dir.resolve("Shown.java");
        Files.writeString(source, "public final class Shown {\n"
            + "public static void run(java.util.function.BiConsumer<Integer, Long> told) {\n" + body + "}\n}\n");
        String path = System.getProperty("java.class.path");
        int compiled = ToolProvider.getSystemJavaCompiler().run(null, null, null, "-cp", path, "-d", dir.toString(), source.toString());
        C.due("README.md's lines compile", compiled, 0);
        if (compiled == 0) {
            try (URLClassLoader loader = new URLClassLoader(new URL[] {dir.toUri().toURL()})) {
                loader.loadClass("Shown").getMethod("run", BiConsumer.class).invoke(null, told);
            }
        }
        remove(dir);
    }

    private static void remove(Path dir) throws IOException {
        for (String name : List.of("Shown.java", "Shown.class")) {
            Files.deleteIfExists(dir.resolve(name));
        }
        Files.delete(dir);
    }

    private static void everythingIsShown(List<String> shown) {
        String lines = String.join("\n", shown);
        for (Method m : PalletNets.class.getDeclaredMethods()) {
            if (Modifier.isPublic(m.getModifiers())) {
                C.isTrue(m.getName() + "() is shown", lines.contains("x." + m.getName() + "("));
            }
        }
        for (Field f : PalletNets.class.getFields()) {
            C.isTrue(f.getName() + " is shown", lines.contains("// " + f.getName() + ":"));
        }
    }

    private static void everyTestIsNamed(String page) throws IOException {
        try (var files = Files.list(TESTS)) {
            for (Path file : files.sorted().toList()) {
                String name = file.getFileName().toString().replace(".java", "");
                if (name.endsWith("Test")) {
                    C.isTrue(name + " is named", page.contains(name));
                }
            }
        }
        Matcher named = Pattern.compile("\\w+Test\\b").matcher(page);
        while (named.find()) {
            C.isTrue(named.group() + " exists", Files.exists(TESTS.resolve(named.group() + ".java")));
        }
        C.isTrue(".ci/run exists", Files.isExecutable(Path.of(".ci/run")));
    }
}
