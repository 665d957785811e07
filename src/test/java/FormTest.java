import java.io.IOException;
import java.lang.reflect.Constructor;
import java.lang.reflect.Field;
import java.lang.reflect.Method;
import java.lang.reflect.Modifier;
import java.nio.file.Files;
import java.nio.file.Path;
import java.util.ArrayList;
import java.util.List;
import java.util.Set;
import java.util.TreeSet;
import java.util.regex.Matcher;
import java.util.regex.Pattern;

/** The public face of the document, and those rules of LANGUAGE.md that can be seen from outside. */
public final class FormTest {
    private static final Path PROGRAM = Path.of("src/main/java/AbsentLords.java");
    private static final String FACE = "feed(IIIII)I back(I)I read()I place()I house(II)I person(II)I send(I)Z call(I)Z "
            + "bury(I)Z give(IIZ)Z years(I)I undo()Z heir(I)I gain(II)I best(III)I loss(II)I race(I)I duel(IIIII)I "
            + "rest(III)I fill(I)I richest(I)I eldest(I)I agents(I)I lords(I)I bound(I)I idle()I share(I)I lordIn(II)I "
            + "then(II)I gotIn(II)I year(III)I tell(II)I forget()I orders(I)I first(II)I last(II)I placed(III)I "
            + "before(III)I sum(II)I ahead(II)I foremost(I)I ask(I)I order(III)I hold(I)Z restore(I)Z count(I)I";
    private static final int LONGEST_METHOD = 60;
    private static final int MOST_PARAMETERS = 7;
    private static final int MOST_FIELDS = 20;
    private static final int MOST_CLASSES = 12;

    private final Due due = new Due();

    public static void main(String[] args) throws IOException {
        FormTest test = new FormTest();
        test.face();
        test.membersOf(AbsentLords.class);
        for (Class<?> inside : AbsentLords.class.getDeclaredClasses()) {
            test.membersOf(inside);
        }
        test.words(Files.readString(PROGRAM));
        test.methods(Files.readAllLines(PROGRAM));
        test.due.end();
    }

    private static String told(Method m) {
        StringBuilder told = new StringBuilder(m.getName()).append('(');
        for (Class<?> type : m.getParameterTypes()) {
            told.append(type.descriptorString());
        }
        return told.append(')').append(m.getReturnType().descriptorString()).toString();
    }

    private void face() {
        Class<?> c = AbsentLords.class;
        due.is("public and final", Modifier.isPublic(c.getModifiers()) && Modifier.isFinal(c.getModifiers()), true);
        due.is("NONE", AbsentLords.NONE, -1);
        Set<String> seen = new TreeSet<>();
        for (Method m : c.getDeclaredMethods()) {
            if (!Modifier.isPrivate(m.getModifiers())) {
                due.is(told(m) + " is public", Modifier.isPublic(m.getModifiers()), true);
                due.is(told(m) + " is of an object", Modifier.isStatic(m.getModifiers()), false);
                seen.add(told(m));
            }
        }
        due.is("the methods are " + seen, seen.equals(new TreeSet<>(List.of(FACE.split(" ")))), true);
        for (Field f : c.getDeclaredFields()) {
            due.is(f.getName() + " is private", Modifier.isPrivate(f.getModifiers()), !f.getName().equals("NONE"));
        }
        Constructor<?>[] made = c.getDeclaredConstructors();
        due.is("constructors", made.length, 1);
        due.is("it is public", Modifier.isPublic(made[0].getModifiers()), true);
        due.is("classes", c.getDeclaredClasses().length < MOST_CLASSES, true);
    }

    /** Of a class: where its members may be seen from, and how its methods are named. */
    private void membersOf(Class<?> c) {
        Set<String> names = new TreeSet<>();
        for (String method : FACE.split(" ")) {
            names.add(method.substring(0, method.indexOf('(')));
        }
        boolean inside = c != AbsentLords.class;
        due.is(c + " is static", !inside || Modifier.isStatic(c.getModifiers()), true);
        due.is(c + " has none inside", !inside || c.getDeclaredClasses().length == 0, true);
        for (Method m : c.getDeclaredMethods()) {
            boolean apart = !names.contains(m.getName());
            due.is(c + " " + m.getName() + " bears a name of its own", apart || !inside && Modifier.isPublic(m.getModifiers()), true);
            due.is(c + " " + m.getName() + " parameters", m.getParameterCount() <= MOST_PARAMETERS, true);
        }
        int fields = 0;
        for (Field f : c.getDeclaredFields()) {
            boolean constant = Modifier.isStatic(f.getModifiers());
            due.is(c + " " + f.getName() + " static and final", !constant || Modifier.isFinal(f.getModifiers()), true);
            fields += constant ? 0 : 1;
        }
        due.is(c + " fields", fields <= MOST_FIELDS, true);
    }

    private void words(String text) {
        String code = text.replaceAll("/\\*(?s:.*?)\\*/", "").replaceAll("//[^\n]*", "").replaceAll("\"[^\"\n]*\"", "\"\"");
        String[] banned = {"\\bthrow", "\\btry\\b", "\\bcatch\\b", "\\bsynchronized\\b", "\\bassert\\b", "\\bprotected\\b",
            "->", "::", "Exact\\b", "\\bimport\\b", "\\bpackage\\b", "\\bhashCode\\b", "\\btoString\\b", "\\bObject\\b",
            "static \\{", "@", "\\bLong\\.MAX", "\\bThread\\b", "System\\.(?!arraycopy)", "\" \\+|\\+ \""};
        for (String word : banned) {
            Matcher m = Pattern.compile(word).matcher(code);
            due.is("the program has " + word, m.find(), false);
        }
        // Objects and rows are made with the object alone: all calls of a run live in one room.
        for (String line : code.split("\n")) {
            if (line.contains("new ")) {
                boolean field = line.matches("\\s+(private )?(static )?(final )?[\\w\\[\\]]+ \\w+ = new .*;");
                boolean row = line.matches("\\s+(slots\\[slot\\]|states\\[i\\]) = new State\\(\\);");
                due.is("made with the object: " + line.strip(), field || row, true);
            }
        }
    }

    private void methods(List<String> lines) {
        List<String> open = new ArrayList<>();
        int start = 0;
        for (int i = 0; i < lines.size(); i++) {
            String line = lines.get(i);
            due.is("line " + (i + 1) + " has signs 32 to 126 alone", line.matches("[ -~]*"), true);
            if (line.matches("( {4}| {8})[\\w\\[\\] ]+\\(.*\\) \\{")) {
                start = i;
                open.add(line);
            } else if (line.matches("( {4}| {8})\\}") && !open.isEmpty()) {
                due.is(open.get(open.size() - 1).strip() + " is short", i - start < LONGEST_METHOD, true);
            }
        }
        due.is("methods were found", open.size() > 46, true);
    }
}
