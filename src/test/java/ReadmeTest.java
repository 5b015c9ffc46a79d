import java.io.IOException;
import java.lang.reflect.Method;
import java.lang.reflect.Modifier;
import java.net.URL;
import java.net.URLClassLoader;
import java.nio.charset.StandardCharsets;
import java.nio.file.DirectoryStream;
import java.nio.file.Files;
import java.nio.file.Path;
import java.util.regex.Matcher;
import java.util.regex.Pattern;
import java.util.stream.Stream;
import javax.tools.ToolProvider;

/** README.md: its Java is compiled and run, each answer that stands behind a call is looked at; each call and test is named. */
public final class ReadmeTest {
    private static final Pattern BLOCK = Pattern.compile("(?s)```java\n(.*?)```");
    private static final Pattern ANSWERED = Pattern.compile("(?m)^(sand\\.\\w+\\([^)]*\\)); +// (-?\\d+|true|false)\\b.*$");
    private static int wrong = 0;

    public static void main(String[] args) throws Exception {
        String page = Files.readString(Path.of("README.md"), StandardCharsets.UTF_8);
        int answers = runExamples(page);
        if (answers < 15) {
            fault("README.md tells " + answers + " answers alone");
        }
        namesEachCall(page);
        namesEachTest(page);
        System.out.println(answers + " answers of README.md looked at, " + wrong + " faults");
        if (wrong != 0) {
            System.exit(1);
        }
    }

    /** The program that the examples become calls it; as texts, for row() answers longs. */
    public static void due(String call, Object got, Object want) {
        if (!got.toString().equals(want.toString())) {
            fault(call + " answered " + got + ", README.md says " + want);
        }
    }

    private static void fault(String what) {
        wrong++;
        System.out.println(what);
    }

    /** Blocks of methods stand as they are, the others go into one main method: how many answers they tell. */
    private static int runExamples(String page) throws Exception {
        StringBuilder methods = new StringBuilder();
        StringBuilder lines = new StringBuilder();
        int answers = 0;
        Matcher block = BLOCK.matcher(page);
        while (block.find()) {
            String code = block.group(1);
            if (code.startsWith("static ")) {
                methods.append(code);
                continue;
            }
            answers += (int) ANSWERED.matcher(code).results().count();
            lines.append(ANSWERED.matcher(code).replaceAll("ReadmeTest.due(\"$1\", $1, $2);"));
        }
        run("public class Examples {\n" + methods + "public static void main(String[] args) {\n" + lines + "}\n}\n");
        return answers;
    }

    private static void run(String program) throws Exception {
        Path work = Files.createTempDirectory("readme");
        try {
            Path source = work.resolve("Examples.java");
            Files.writeString(source, program, StandardCharsets.UTF_8);
            String known = System.getProperty("java.class.path");
            int refused = ToolProvider.getSystemJavaCompiler()
                    .run(null, null, null, "-cp", known, "-d", work.toString(), source.toString());
            if (refused != 0) {
                fault("README.md: its Java is refused");
                return;
            }
            try (URLClassLoader loader = new URLClassLoader(new URL[] {work.toUri().toURL()})) {
                loader.loadClass("Examples").getMethod("main", String[].class).invoke(null, (Object) new String[0]);
            }
        } finally {
            clear(work);
        }
    }

    private static void clear(Path work) throws IOException {
        try (Stream<Path> files = Files.list(work)) {
            for (Path file : files.toList()) {
                Files.delete(file);
            }
        }
        Files.delete(work);
    }

    private static void namesEachCall(String page) {
        for (Method method : ByTheThumbs.class.getDeclaredMethods()) {
            if (Modifier.isPublic(method.getModifiers()) && !page.contains("`" + method.getName() + "()`")) {
                fault("README.md does not name " + method.getName() + "()");
            }
        }
    }

    private static void namesEachTest(String page) throws IOException {
        try (DirectoryStream<Path> tests = Files.newDirectoryStream(Path.of("src/test/java"), "*.java")) {
            for (Path test : tests) {
                String name = test.getFileName().toString().replace(".java", "");
                if (!page.contains("| `" + name + "` |")) {
                    fault("README.md does not name " + name);
                }
            }
        }
    }
}
