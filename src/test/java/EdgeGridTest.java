import java.lang.reflect.Method;
import java.util.Arrays;

/**
 * All promises but feed: each call at the edges of each of its arguments, with those of the others, in counties that
 * are empty, full and between: answered by the program and by the model alike, and never by an exception.
 */
public final class EdgeGridTest {
    private static final int LEAST = Integer.MIN_VALUE;
    private static final int MOST = Integer.MAX_VALUE;
    private static final int[] PERSONS = {LEAST, -2, -1, 0, 1, 2, 3, 4, 5, 6, 7, 8, 31, 32, 33, MOST};
    private static final int[] SOME_PERSONS = {LEAST, -1, 0, 1, 3, 4, 5, 7, MOST};
    private static final int[] HOUSES = {LEAST, -2, -1, 0, 1, 2, 3, 4, 5, 6, 31, 32, 33, MOST};
    private static final int[] YEARS = {LEAST, -1, 0, 1, 2, 39, 40, 41, MOST};
    private static final int[] WHATS = {LEAST, -2, -1, 0, 1, 2, 3, 4, MOST};
    private static final int[] MANY_WHATS = {LEAST, -2, -1, 0, 1, 2, 3, 4, 5, 6, 7, 8, 9, 10, 11, 12, 13, 14, 15, 16, 17, 18, 32, MOST};
    private static final int[] SEEDS = {LEAST, -1, 0, 1, 2, 19, 20, 21, MOST};
    private static final int[] KNOWN = {LEAST, -1, 0, 1, 2, 3, 4, 20, 21, MOST};
    private static final int[] ORDERS = {LEAST, -1, 0, 1, 2, 3, 19, 20, 21, 59, 60, 119, 120, 5040, MOST};
    private static final int[] SLOTS = {LEAST, -1, 0, 1, 2, 3, 4, 32, MOST};
    private static final int[] BYTES = {LEAST, -1, 0, 1, 19, 20, 21, 39, 40, 41, 1999, 2000, 2001, MOST};
    private static final int[] TRUTHS = {0, 1};
    // An object is used for 512 calls at most.
    private static final int MOST_CALLS = 400;

    private static final String FIVE = "house h 5; house k 7; house l 99; person a 10; person b 20; person c 30; person d 99;"
            + "person e 0; right a h; right b h; right c k; right d k; right e l; right a l; away b 3; away c 0;"
            + "goes = 30 + which; comes = 20; dies = if year < 3 then 0 else 3; rents = rent + gone; seed 9990;";

    private final Due due;
    private final String text;
    private final String[] ahead;
    private AbsentLords x;
    private Model m;
    private int calls;

    private EdgeGridTest(Due due, String text, String... ahead) {
        this.due = due;
        this.text = text;
        this.ahead = ahead;
    }

    public static void main(String[] args) {
        Due due = new Due();
        String[] some = {"hold 1", "years 2", "send 0", "bury 4", "tell 0 1", "tell 1 2", "give 3 0 1"};
        new EdgeGridTest(due, "").all(true);
        new EdgeGridTest(due, "", "years 40", "hold 0", "years 40").all(true);
        new EdgeGridTest(due, "house h 99;").all(true);
        new EdgeGridTest(due, "person a 99; away a 99; seed 9999;").all(true);
        new EdgeGridTest(due, "house h 9; person a 1; person b 2; right a h; right b h; away a 0; away b 0;", "tell 1 0").all(true);
        new EdgeGridTest(due, FIVE, some).all(true);
        // No ORDERS, nobody alive.
        new EdgeGridTest(due, FIVE, "tell 0 1", "tell 1 0", "bury 0", "bury 1", "bury 2", "bury 3", "bury 4").all(true);
        // The model lists all orders of seven too slowly.
        new EdgeGridTest(due, Busy.TEXT, some).all(false);
        due.end();
    }

    private void all(boolean withLetters) {
        whatIsSo();
        whatWouldBe();
        whatWillBe();
        if (withLetters) {
            letters();
        }
        deeds();
    }

    private void whatIsSo() {
        grid("place");
        grid("house", HOUSES, MANY_WHATS);
        grid("person", PERSONS, MANY_WHATS);
        grid("count", MANY_WHATS);
    }

    private void whatWouldBe() {
        grid("heir", HOUSES);
        grid("gain", PERSONS, YEARS);
        grid("best", PERSONS, YEARS, WHATS);
        grid("loss", PERSONS, YEARS);
        grid("race", HOUSES);
        grid("duel", SOME_PERSONS, SOME_PERSONS, YEARS, WHATS, WHATS);
        grid("rest", SOME_PERSONS, SOME_PERSONS, YEARS);
        grid("fill", WHATS);
        grid("richest", WHATS);
        grid("eldest", WHATS);
        grid("agents", WHATS);
        grid("lords", HOUSES);
        grid("bound", PERSONS);
        grid("idle");
        grid("share", PERSONS);
    }

    private void whatWillBe() {
        grid("lordIn", HOUSES, YEARS);
        grid("then", YEARS, WHATS);
        grid("gotIn", PERSONS, YEARS);
        grid("year", SOME_PERSONS, YEARS, SEEDS);
    }

    private void letters() {
        grid("orders", KNOWN);
        grid("first", KNOWN, PERSONS);
        grid("last", KNOWN, PERSONS);
        grid("placed", KNOWN, PERSONS, SOME_PERSONS);
        grid("before", KNOWN, PERSONS, SOME_PERSONS);
        grid("sum", KNOWN, PERSONS);
        grid("ahead", KNOWN, PERSONS);
        grid("foremost", KNOWN);
        grid("ask", KNOWN);
        grid("order", KNOWN, ORDERS, SOME_PERSONS);
    }

    /** Each in a pair of its own, of which all numbers are compared behind it. */
    private void deeds() {
        grid("send", PERSONS);
        grid("call", PERSONS);
        grid("bury", PERSONS);
        grid("give", PERSONS, HOUSES, TRUTHS);
        grid("years", YEARS);
        grid("undo");
        grid("tell", PERSONS, PERSONS);
        grid("forget");
        grid("hold", SLOTS);
        grid("restore", SLOTS);
        grid("back", BYTES);
        grid("read");
    }

    private void grid(String name, int[]... edges) {
        boolean asking = !"send call bury give years undo tell forget hold restore back read".contains(name);
        int many = 1;
        for (int[] edge : edges) {
            many *= edge.length;
        }
        calls = MOST_CALLS;
        for (int i = 0; i < many; i++) {
            int[] args = new int[edges.length];
            int rest = i;
            for (int j = 0; j < edges.length; j++) {
                args[j] = edges[j][rest % edges[j].length];
                rest /= edges[j].length;
            }
            if (!asking || calls >= MOST_CALLS) {
                make();
            }
            both(name, args);
            if (!asking) {
                compareNumbers(name + Arrays.toString(args));
            }
        }
    }

    /** A new pair, with the same behind it. */
    private void make() {
        x = new AbsentLords();
        m = new Model();
        calls = 0;
        byte[] bytes = Due.bytes(text + " ".repeat((20 - text.length() % 20) % 20));
        feed(bytes);
        both("read");
        for (String call : ahead) {
            String[] parts = call.split(" ");
            int[] args = new int[parts.length - 1];
            for (int i = 0; i < args.length; i++) {
                args[i] = Integer.parseInt(parts[i + 1]);
            }
            both(parts[0], args);
        }
        feed(Due.bytes("person z 5; house y 7; right z y; . . . "));
    }

    private void feed(byte[] bytes) {
        for (int at = 0; at < bytes.length; at += 20) {
            int[] w = Due.words(bytes, at);
            due.is("feed", x.feed(w[0], w[1], w[2], w[3], w[4]), m.feed(w));
            calls++;
        }
    }

    private void compareNumbers(String call) {
        for (int what = 0; what <= 16; what++) {
            due.is(call + " in " + text + ", then count(" + what + ")", x.count(what), m.count(what));
        }
        due.is(call + " in " + text + ", then undo()", x.undo(), m.undo());
        due.is(call + " in " + text + ", then the year", x.count(2), m.count(2));
    }

    private void both(String name, int... args) {
        calls++;
        due.is(name + Arrays.toString(args) + " in " + text, answer(x, name, args), answer(m, name, args));
    }

    private static String answer(Object of, String name, int[] args) {
        for (Method method : of.getClass().getDeclaredMethods()) {
            if (method.getName().equals(name) && method.getParameterCount() == args.length) {
                Object[] given = new Object[args.length];
                for (int i = 0; i < args.length; i++) {
                    boolean truth = method.getParameterTypes()[i] == boolean.class;
                    given[i] = truth ? (Object) (args[i] != 0) : (Object) args[i];
                }
                try {
                    return String.valueOf(method.invoke(of, given));
                } catch (ReflectiveOperationException e) {
                    return String.valueOf(e.getCause());
                }
            }
        }
        throw new IllegalStateException(name);
    }
}
