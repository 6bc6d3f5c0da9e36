import java.io.File;
import java.lang.reflect.Method;
import java.lang.reflect.Modifier;
import java.net.URL;
import java.net.URLClassLoader;
import java.nio.file.Files;
import java.nio.file.Path;
import java.util.ArrayList;
import java.util.List;
import java.util.regex.Matcher;
import java.util.regex.Pattern;
import javax.tools.JavaCompiler;
import javax.tools.ToolProvider;

/** The program in README.md, compiled and run as it stands there: each call answers what the page says behind it. */
public final class ReadmeTest {
    private static final Path PAGE = Path.of("README.md");
    private static final Pattern TOLD = Pattern.compile("\\s*((?:x\\.\\w+|tell)\\(.*\\));\\s*// (-?\\d+)\\b.*");
    private static final int FEWEST_TOLD = 40;

    private static int wrong = 0;
    private static int checks = 0;

    /** Called by the page's program, in place of each call that has an answer behind it. */
    public static void due(String call, long got, long want) {
        checks++;
        if (got != want) {
            wrong++;
            System.out.println("README.md: " + call + " answered " + got + ", the page says " + want);
        }
    }

    private static void fault(String what) {
        wrong++;
        System.out.println("README.md: " + what);
    }

    public static void main(String[] args) throws Exception {
        String page = Files.readString(PAGE);
        everyCallIsNamed(page);
        everyTestIsNamed(page);
        run(programOf(page));
        if (checks < FEWEST_TOLD) {
            fault("only " + checks + " calls are told with an answer");
        }
        System.out.println(checks + " answers on the page, " + wrong + " wrong");
        if (wrong != 0) {
            System.exit(1);
        }
    }

    private static void everyCallIsNamed(String page) {
        for (Method m : OneWayPast.class.getDeclaredMethods()) {
            if (Modifier.isPublic(m.getModifiers()) && !page.contains("`" + m.getName() + "`")) {
                fault("does not name the call " + m.getName());
            }
        }
    }

    private static void everyTestIsNamed(String page) {
        File[] tests = new File("src/test/java").listFiles();
        if (tests == null) {
            fault("no tests are found; run this from the project's folder");
            return;
        }
        for (File test : tests) {
            String name = test.getName().replace(".java", "");
            if (!page.contains("- `" + name + "`:")) {
                fault("does not tell of the test " + name);
            }
        }
    }

    private static List<String> programOf(String page) {
        List<String> program = new ArrayList<>();
        boolean within = false;
        for (String line : page.lines().toList()) {
            if (line.equals("```java")) {
                within = true;
            } else if (line.equals("```")) {
                within = false;
            } else if (within) {
                program.add(withDue(line));
            }
        }
        return program;
    }

    private static String withDue(String line) {
        Matcher told = TOLD.matcher(line);
        if (!told.matches()) {
            return line;
        }
        String call = told.group(1);
        String quoted = call.replace("\\", "\\\\").replace("\"", "\\\"");
        return "ReadmeTest.due(\"" + quoted + "\", " + call + ", " + told.group(2) + "L);";
    }

    private static void run(List<String> program) throws Exception {
        JavaCompiler compiler = ToolProvider.getSystemJavaCompiler();
        Path out = Files.createTempDirectory("readme");
        Path source = out.resolve("Example.java");
        Files.write(source, program);
        String classes = System.getProperty("java.class.path");
        int failed = compiler.run(null, null, null, "-cp", classes, "-d", out.toString(), source.toString());
        if (failed != 0) {
            fault("its program does not compile");
        } else {
            try (URLClassLoader loader = new URLClassLoader(new URL[] {out.toUri().toURL()})) {
                Method main = loader.loadClass("Example").getMethod("main", String[].class);
                main.invoke(null, (Object) new String[0]);
            }
        }
        try (var files = Files.walk(out)) {
            files.sorted((a, b) -> b.compareTo(a)).forEach(file -> file.toFile().delete());
        }
    }
}
