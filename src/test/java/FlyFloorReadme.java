import java.io.IOException;
import java.nio.file.Files;
import java.nio.file.Path;
import java.util.ArrayList;
import java.util.Comparator;
import java.util.List;
import java.util.regex.Matcher;
import java.util.regex.Pattern;
import java.util.stream.Stream;
import javax.tools.JavaCompiler;
import javax.tools.ToolProvider;

/** README.md: its example is compiled and run as it stands there; it names every test and class. */
public final class FlyFloorReadme {
    private static final Path PAGE = Path.of("README.md");
    private static final Pattern ASKED = Pattern.compile("floor\\.(\\w+)\\((.*)\\);\\s*// (-?\\d+):? ?.*");

    private static int wrong = 0;

    private static void require(boolean holds, String what) {
        if (!holds) {
            wrong++;
            System.out.println(what);
        }
    }

    /** Called by the example that was compiled, for each number that the page tells. */
    public static void due(String call, long got, long want) {
        require(got == want, call + " answered " + got + ", README.md says " + want);
    }

    private static List<String> example(List<String> page) {
        int begin = page.indexOf("```java");
        int end = begin < 0 ? -1 : begin + page.subList(begin, page.size()).indexOf("```");
        return end <= begin ? List.of() : page.subList(begin + 1, end);
    }

    private static String asProgram(List<String> lines) {
        List<String> all = new ArrayList<>(List.of("public class Example {", "public static void run() {"));
        for (String line : lines) {
            Matcher m = ASKED.matcher(line);
            require(m.matches() || !line.startsWith("floor."), "README.md tells no answer: " + line);
            if (m.matches()) {
                String call = m.group(1) + "(" + m.group(2) + ")";
                all.add("FlyFloorReadme.due(\"" + call + "\", floor." + call + ", " + m.group(3) + "L);");
            } else {
                all.add(line);
            }
        }
        require(lines.stream().anyMatch(line -> line.startsWith("floor.")), "README.md has no example");
        all.addAll(List.of("}", "}"));
        return String.join("\n", all);
    }

    private static void runExample(List<String> lines, Path out) throws Exception {
        Path source = out.resolve("Example.java");
        Files.writeString(source, asProgram(lines));
        JavaCompiler compiler = ToolProvider.getSystemJavaCompiler();
        String classes = System.getProperty("java.class.path");
        boolean compiled = compiler != null
            && compiler.run(null, null, null, "-cp", classes, "-d", out.toString(), source.toString()) == 0;
        require(compiled, "the example of README.md does not compile");
        if (compiled) {
            java.net.URL[] place = {out.toUri().toURL()};
            try (java.net.URLClassLoader loader =
                    new java.net.URLClassLoader(place, FlyFloorReadme.class.getClassLoader())) {
                loader.loadClass("Example").getMethod("run").invoke(null);
            }
        }
    }

    private static void remove(Path place) throws IOException {
        try (Stream<Path> all = Files.walk(place)) {
            for (Path one : all.sorted(Comparator.reverseOrder()).toList()) {
                Files.delete(one);
            }
        }
    }

    private static void names(String page) throws IOException {
        try (Stream<Path> tests = Files.list(Path.of("src/test/java"))) {
            for (Path test : tests.toList()) {
                String name = test.getFileName().toString().replace(".java", "");
                require(page.contains("- `" + name + "`:"), "README.md does not name the test " + name);
            }
        }
        for (Class<?> inside : FlyFloor.class.getDeclaredClasses()) {
            String row = "(?sm).*^\\|[^|]*\\b" + inside.getSimpleName() + "\\b[^|]*\\|.*";
            require(page.matches(row), "README.md does not name the class " + inside.getSimpleName());
        }
    }

    public static void main(String[] args) throws Exception {
        Path out = Files.createTempDirectory("readme");
        try {
            runExample(example(Files.readAllLines(PAGE)), out);
        } finally {
            remove(out);
        }
        names(Files.readString(PAGE));
        System.out.println(wrong == 0 ? "README.md says what is so" : wrong + " things that README.md says are not so");
        if (wrong != 0) {
            System.exit(1);
        }
    }
}
