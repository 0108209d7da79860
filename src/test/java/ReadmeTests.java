import java.io.IOException;
import java.lang.reflect.Method;
import java.lang.reflect.Modifier;
import java.net.URL;
import java.net.URLClassLoader;
import java.nio.file.Files;
import java.nio.file.Path;
import java.util.Comparator;
import java.util.List;
import java.util.regex.Matcher;
import java.util.regex.Pattern;
import java.util.stream.Stream;
import javax.tools.JavaCompiler;
import javax.tools.ToolProvider;

/** README.md: its example gives what it says, and it names every call. */
public final class ReadmeTests {
    private static final Pattern ANSWERED =
            Pattern.compile("(?m)^(x\\.\\w+\\([^;]*\\)); *// (-?\\d+)\\b.*$");
    private static int wrong = 0;
    private static int asked = 0;

    private static void due(String what, long got, long want) {
        asked++;
        if (got != want) {
            wrong++;
            System.out.println("README.md, " + what + ": answered " + got + ", due is " + want);
        }
    }

    /** The example as a program: each call with a number behind it notes its answer. */
    private static String program(String example) {
        String noted = ANSWERED.matcher(example)
                .replaceAll(call -> Matcher.quoteReplacement("got.add((long) " + call.group(1) + ");"));
        return "public final class Example {\n"
                + "public static java.util.List<Long> answers() {\n"
                + "java.util.List<Long> got = new java.util.ArrayList<>();\n"
                + noted + "return got;\n}\n}\n";
    }

    private static List<?> answers(String program, Path folder) throws Exception {
        Path source = folder.resolve("Example.java");
        Files.writeString(source, program);
        JavaCompiler compiler = ToolProvider.getSystemJavaCompiler();
        int code = compiler.run(null, null, null, "-d", folder.toString(),
                "-cp", System.getProperty("java.class.path"), source.toString());
        due("the example compiles", code, 0);
        if (code != 0) {
            return List.of();
        }
        try (URLClassLoader loader = new URLClassLoader(new URL[] {folder.toUri().toURL()})) {
            return (List<?>) loader.loadClass("Example").getMethod("answers").invoke(null);
        }
    }

    private static void example(String readme) throws Exception {
        Matcher block = Pattern.compile("(?s)```java\n(.*?)```").matcher(readme);
        String example = block.find() ? block.group(1) : "";
        Path folder = Files.createTempDirectory("readme");
        try {
            List<?> got = answers(program(example), folder);
            Matcher call = ANSWERED.matcher(example);
            int k = 0;
            for (; call.find(); k++) {
                long answer = k < got.size() ? (Long) got.get(k) : Long.MIN_VALUE;
                due(call.group(1), answer, Long.parseLong(call.group(2)));
            }
            due("calls with an answer", k, example.lines().filter(l -> l.contains("//")).count());
            due("at least ten of them", Math.min(k, 10), 10);
        } finally {
            remove(folder);
        }
    }

    private static void remove(Path folder) throws IOException {
        try (Stream<Path> all = Files.walk(folder)) {
            for (Path each : all.sorted(Comparator.reverseOrder()).toList()) {
                Files.delete(each);
            }
        }
    }

    /** Each call stands in the table of calls, with as many arguments as it has. */
    private static void everyCall(String readme) {
        for (Method m : DrumPlacer.class.getDeclaredMethods()) {
            if (!Modifier.isPublic(m.getModifiers())) {
                continue;
            }
            String more = "(, \\w+){" + Math.max(0, m.getParameterCount() - 1) + "}";
            String arguments = m.getParameterCount() == 0 ? "" : "\\w+" + more;
            boolean named = Pattern.compile("(?m)^\\|.*`" + m.getName() + "\\(" + arguments
                    + "\\)`.*\\|.*\\|$").matcher(readme).find();
            due("names " + m.getName(), named ? 1 : 0, 1);
        }
    }

    /** Each test of the project is told, and no other. */
    private static void everyTest(String readme) throws IOException {
        try (Stream<Path> files = Files.list(Path.of("src/test/java"))) {
            for (Path file : files.toList()) {
                String name = file.getFileName().toString().replace(".java", "");
                due("tells " + name, readme.contains(name) || !name.endsWith("Tests") ? 1 : 0, 1);
            }
        }
        Matcher told = Pattern.compile("`(\\w+Tests)`").matcher(readme);
        while (told.find()) {
            boolean there = Files.exists(Path.of("src/test/java", told.group(1) + ".java"));
            due("there is " + told.group(1), there ? 1 : 0, 1);
        }
        due("says .ci/run", readme.contains("`.ci/run`") ? 1 : 0, 1);
    }

    public static void main(String[] args) throws Exception {
        String readme = Files.readString(Path.of("README.md"));
        example(readme);
        everyCall(readme);
        everyTest(readme);
        System.out.println(asked + " questions on README.md");
        System.out.println(wrong == 0 ? "all answers are as due" : wrong + " answers are not as due");
        if (wrong != 0) {
            System.exit(1);
        }
    }
}
