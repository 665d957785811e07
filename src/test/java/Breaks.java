import java.io.File;
import java.io.IOException;
import java.io.OutputStream;
import java.io.PrintStream;
import java.lang.reflect.Constructor;
import java.lang.reflect.Field;
import java.lang.reflect.InvocationTargetException;
import java.lang.reflect.Method;
import java.net.URL;
import java.net.URLClassLoader;
import java.nio.file.Files;
import java.nio.file.Path;
import java.util.ArrayList;
import java.util.List;
import java.util.regex.Matcher;
import java.util.regex.Pattern;
import java.util.stream.IntStream;
import javax.tools.ToolProvider;

/**
 * Tries every change of sentences.txt: the program with that one change is compiled, and the method that looks at the
 * sentence must see it. Run by hand (.ci/breaks), as the changes are of this one program, not of the document.
 */
public final class Breaks {
    private static final Path PROGRAM = Path.of("src/main/java/AbsentLords.java");

    private record Break(String sentence, Sentences.Look look, Sentences.Change change) { }

    private final String program;
    private final Path folder;

    private Breaks(String program, Path folder) {
        this.program = program;
        this.folder = folder;
    }

    /** The one argument: a folder to compile into. */
    public static void main(String[] args) throws IOException {
        Breaks breaks = new Breaks(Files.readString(PROGRAM), Path.of(args[0]));
        List<Break> all = new ArrayList<>();
        for (Sentences.Sentence sentence : Sentences.all()) {
            for (Sentences.Look look : sentence.looks()) {
                look.changes().forEach(change -> all.add(new Break(sentence.words(), look, change)));
            }
        }
        PrintStream out = System.out;
        // The tests tell what they see, which is just what is wanted here and need not be told.
        System.setOut(new PrintStream(OutputStream.nullOutputStream()));
        long unseen = IntStream.range(0, all.size()).parallel().filter(i -> !breaks.isSeen(i, all.get(i), out)).count();
        out.println(all.size() + " changes tried, " + unseen + " not seen");
        System.exit(unseen == 0 ? 0 : 1);
    }

    private boolean isSeen(int number, Break one, PrintStream out) {
        String fault = faultOf(number, one);
        if (!fault.isEmpty()) {
            Sentences.Look look = one.look();
            out.println(one.sentence() + "\n  " + look.test() + "." + look.method() + ": " + fault
                    + "\n  - " + one.change().old() + "\n  + " + one.change().other());
        }
        return fault.isEmpty();
    }

    private String faultOf(int number, Break one) {
        try {
            String[] words = one.change().old().trim().split("\\s+");
            StringBuilder pattern = new StringBuilder();
            for (String word : words) {
                pattern.append(pattern.length() == 0 ? "" : "\\s+").append(Pattern.quote(word));
            }
            Matcher found = Pattern.compile(pattern.toString()).matcher(program);
            if (!found.find()) {
                return "what is changed does not stand in the program";
            }
            String changed = program.substring(0, found.start()) + one.change().other() + program.substring(found.end());
            if (found.find()) {
                return "what is changed stands more than once";
            }
            Path into = Files.createDirectories(folder.resolve("break" + number));
            Path file = Files.writeString(into.resolve("AbsentLords.java"), changed);
            int compiled = ToolProvider.getSystemJavaCompiler().run(null, OutputStream.nullOutputStream(),
                    OutputStream.nullOutputStream(), "-d", into.toString(), file.toString());
            return compiled != 0 ? "does not compile" : sees(into, one.look()) ? "" : "NOT SEEN";
        } catch (IOException | ReflectiveOperationException e) {
            return e.toString();
        }
    }

    /** Runs one method of a test beside the changed program: a wrong answer or an exception is what is wanted. */
    private static boolean sees(Path changed, Sentences.Look look) throws IOException, ReflectiveOperationException {
        String own = System.getProperty("java.class.path");
        URL[] from = {changed.toUri().toURL(), new File(own).toURI().toURL()};
        try (URLClassLoader loader = new URLClassLoader(from, ClassLoader.getPlatformClassLoader())) {
            Class<?> test = loader.loadClass(look.test());
            Constructor<?> made = test.getDeclaredConstructor();
            made.setAccessible(true);
            Object object = made.newInstance();
            Method method = test.getDeclaredMethod(look.method());
            method.setAccessible(true);
            try {
                method.invoke(object);
            } catch (InvocationTargetException e) {
                return true;
            }
            return wrongAnswers(object) > 0;
        }
    }

    private static int wrongAnswers(Object test) throws ReflectiveOperationException {
        Class<?> holder = test.getClass();
        // Tests of texts have it from the class above them.
        Field due = holder.getSuperclass() == Object.class
                ? holder.getDeclaredField("due") : holder.getSuperclass().getDeclaredField("due");
        due.setAccessible(true);
        Object counted = due.get(test);
        Field wrong = counted.getClass().getDeclaredField("wrong");
        wrong.setAccessible(true);
        return wrong.getInt(counted);
    }
}
