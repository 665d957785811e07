import java.io.File;
import java.io.IOException;
import java.lang.reflect.Method;
import java.net.URL;
import java.net.URLClassLoader;
import java.nio.file.Files;
import java.nio.file.Path;
import java.util.ArrayList;
import java.util.Comparator;
import java.util.List;
import java.util.Set;
import java.util.TreeSet;
import java.util.regex.Matcher;
import java.util.regex.Pattern;
import java.util.stream.Stream;
import javax.tools.ToolProvider;

/** README.md: its Java, compiled as it stands, answers what stands behind each call, and its tables leave nothing out. */
public final class ReadmeTest {
    private static final Path PAGE = Path.of("README.md");
    private static final Pattern CALL = Pattern.compile("(county\\.(\\w+)\\(.*\\));\\s+// (-?\\d+|true|false)\\b.*");

    private final Due due = new Due();
    private final StringBuilder methods = new StringBuilder();
    private final StringBuilder calls = new StringBuilder();
    private final List<String> told = new ArrayList<>();
    private final List<String> want = new ArrayList<>();

    public static void main(String[] args) throws IOException, ReflectiveOperationException {
        ReadmeTest test = new ReadmeTest();
        String page = Files.readString(PAGE);
        test.gather(page);
        test.tryCalls();
        test.everyCall(page);
        test.everyTest(page);
        test.due.end();
    }

    private void gather(String page) {
        Matcher block = Pattern.compile("```java\n(.*?)```", Pattern.DOTALL).matcher(page);
        while (block.find()) {
            if (block.group(1).startsWith("void ")) {
                methods.append(block.group(1));
            } else {
                block.group(1).lines().forEach(this::gatherLine);
            }
        }
    }

    /** A call becomes one whose answer is kept; all else stands as it is. */
    private void gatherLine(String line) {
        Matcher call = CALL.matcher(line);
        if (call.matches()) {
            told.add(call.group(1));
            want.add(call.group(3));
            calls.append("answers.add(String.valueOf(").append(call.group(1)).append("));\n");
        } else {
            due.is("an answer stands behind: " + line, line.startsWith("county."), false);
            calls.append(line).append('\n');
        }
    }

    private void tryCalls() throws IOException, ReflectiveOperationException {
        String program = "public final class Page {\n" + methods + "public java.util.List<String> answers() {\n"
                + "java.util.List<String> answers = new java.util.ArrayList<>();\n" + calls + "return answers;\n}\n}\n";
        Path folder = Files.createTempDirectory("readme");
        try {
            Path file = Files.writeString(folder.resolve("Page.java"), program);
            String own = System.getProperty("java.class.path");
            int compiled = ToolProvider.getSystemJavaCompiler().run(null, null, null, "-cp", own, "-d", folder.toString(),
                    file.toString());
            due.is("compiled", compiled, 0);
            compare(folder, own);
        } finally {
            try (Stream<Path> files = Files.walk(folder)) {
                files.sorted(Comparator.reverseOrder()).forEach(path -> path.toFile().delete());
            }
        }
    }

    private void compare(Path folder, String own) throws IOException, ReflectiveOperationException {
        URL[] from = {folder.toUri().toURL(), new File(own).toURI().toURL()};
        try (URLClassLoader loader = new URLClassLoader(from, ClassLoader.getPlatformClassLoader())) {
            Class<?> page = loader.loadClass("Page");
            Object answers = page.getMethod("answers").invoke(page.getDeclaredConstructor().newInstance());
            int i = 0;
            for (Object answer : (List<?>) answers) {
                due.is(told.get(i), String.valueOf(answer), want.get(i));
                i++;
            }
            due.is("all calls were tried", i, told.size());
        }
    }

    private void everyCall(String page) {
        Set<String> names = new TreeSet<>();
        for (Method method : AbsentLords.class.getMethods()) {
            if (method.getDeclaringClass() == AbsentLords.class) {
                names.add(method.getName());
            }
        }
        for (String name : names) {
            due.is(name + " is shown", page.contains("county." + name + "("), true);
        }
    }

    private void everyTest(String page) {
        String[] files = new File("src/test/java").list((folder, name) -> name.endsWith("Test.java"));
        for (String file : files) {
            due.is(file + " is told of", page.contains(file.replace(".java", "")), true);
        }
    }
}
