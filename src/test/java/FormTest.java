import java.lang.reflect.Constructor;
import java.lang.reflect.Field;
import java.lang.reflect.Method;
import java.lang.reflect.Modifier;
import java.util.List;
import java.util.Set;
import java.util.TreeSet;

/** The public face of the document, as LANGUAGE.md 1 binds it, and the sizes of rule 11 that a compiled class shows. */
public final class FormTest {
    private static final String FACE = "feed(IIIII)I back(I)I read()I place()I house(II)I person(II)I send(I)Z call(I)Z "
            + "bury(I)Z give(IIZ)Z years(I)I undo()Z heir(I)I gain(II)I best(III)I loss(II)I race(I)I duel(IIIII)I "
            + "rest(III)I fill(I)I richest(I)I eldest(I)I agents(I)I lords(I)I bound(I)I idle()I share(I)I lordIn(II)I "
            + "then(II)I gotIn(II)I year(III)I tell(II)I forget()I orders(I)I first(II)I last(II)I placed(III)I "
            + "before(III)I sum(II)I ahead(II)I foremost(I)I ask(I)I order(III)I hold(I)Z restore(I)Z count(I)I";
    private static final int MOST_PARAMETERS = 7;
    private static final int MOST_FIELDS = 20;
    private static final int MOST_CLASSES = 12;

    private final Due due = new Due();

    public static void main(String[] args) {
        FormTest test = new FormTest();
        test.face();
        test.membersOf(AbsentLords.class);
        for (Class<?> inside : AbsentLords.class.getDeclaredClasses()) {
            test.membersOf(inside);
        }
        test.due.end();
    }

    private static String told(Method m) {
        StringBuilder told = new StringBuilder(m.getName()).append('(');
        for (Class<?> type : m.getParameterTypes()) {
            told.append(type.descriptorString());
        }
        return told.append(')').append(m.getReturnType().descriptorString()).toString();
    }

    private void face() {
        due.about("1. The face: the class of the document, public and final, .. and no other .. member");
        Class<?> c = AbsentLords.class;
        due.is("public and final", Modifier.isPublic(c.getModifiers()) && Modifier.isFinal(c.getModifiers()), true);
        due.is("no package", c.getPackageName().isEmpty(), true);
        due.is("NONE", AbsentLords.NONE, -1);
        Set<String> seen = new TreeSet<>();
        for (Method m : c.getDeclaredMethods()) {
            if (!Modifier.isPrivate(m.getModifiers())) {
                due.is(told(m) + " is public", Modifier.isPublic(m.getModifiers()), true);
                due.is(told(m) + " is of an object", Modifier.isStatic(m.getModifiers()), false);
                seen.add(told(m));
            }
        }
        due.is("the methods are " + seen, seen.equals(new TreeSet<>(List.of(FACE.split(" ")))), true);
        for (Field f : c.getDeclaredFields()) {
            due.is(f.getName() + " is private", Modifier.isPrivate(f.getModifiers()), !f.getName().equals("NONE"));
        }
        Constructor<?>[] made = c.getDeclaredConstructors();
        due.is("constructors", made.length, 1);
        due.is("it is public", Modifier.isPublic(made[0].getModifiers()), true);
        due.is("classes", c.getDeclaredClasses().length < MOST_CLASSES, true);
    }

    /** Of a class: where its members may be seen from, and how its methods are named. */
    private void membersOf(Class<?> c) {
        due.about("1, 2, 5, 11 of " + c);
        Set<String> names = new TreeSet<>();
        for (String method : FACE.split(" ")) {
            names.add(method.substring(0, method.indexOf('(')));
        }
        boolean inside = c != AbsentLords.class;
        due.is("static", !inside || Modifier.isStatic(c.getModifiers()), true);
        due.is("neither public nor protected", inside && (c.getModifiers() & (Modifier.PUBLIC | Modifier.PROTECTED)) != 0, false);
        for (Method m : c.getDeclaredMethods()) {
            boolean apart = !names.contains(m.getName()) || !Modifier.isPrivate(m.getModifiers());
            due.is(m.getName() + " bears a name of its own", apart, true);
            due.is(m.getName() + " parameters", m.getParameterCount() <= MOST_PARAMETERS, true);
        }
        int fields = 0;
        for (Field f : c.getDeclaredFields()) {
            boolean constant = Modifier.isStatic(f.getModifiers());
            due.is(f.getName() + " static and final", !constant || Modifier.isFinal(f.getModifiers()), true);
            fields += constant ? 0 : 1;
        }
        due.is("fields", fields <= MOST_FIELDS, true);
    }
}
