import java.util.function.Consumer;
import java.util.function.Supplier;

/**
 * All that can be seen of an object, as a text. What stays hidden until something is undone, restored or read is
 * seen in an object of its own for each, so that none is used for more than 512 calls.
 */
final class Seen {
    private static final int UNDOS = 5;
    private static final int SLOTS = 3;

    private Seen() {
    }

    /** Nothing is changed by a call. */
    static void unchanged(Due due, String call, Supplier<AbsentLords> made, Consumer<AbsentLords> called) {
        alike(due, call + " changes nothing:", () -> {
            AbsentLords x = made.get();
            called.accept(x);
            return x;
        }, made);
    }

    /** Two objects, made anew each time, answer alike, now and behind undo, restore and read. */
    static void alike(Due due, String when, Supplier<AbsentLords> one, Supplier<AbsentLords> other) {
        for (int probe = 0; probe <= UNDOS + SLOTS + 1; probe++) {
            AbsentLords x = one.get();
            AbsentLords y = other.get();
            String name = when + " " + nameOf(probe);
            due.is(name, probed(x, probe), probed(y, probe));
        }
    }

    private static String nameOf(int probe) {
        if (probe <= UNDOS) {
            return probe + " times undone";
        }
        return probe <= UNDOS + SLOTS ? "SLOT " + (probe - UNDOS - 1) + " restored" : "the tape read";
    }

    private static String probed(AbsentLords x, int probe) {
        StringBuilder seen = new StringBuilder();
        for (int i = 0; i < probe && probe <= UNDOS; i++) {
            seen.append(x.undo()).append(' ');
        }
        if (probe > UNDOS + SLOTS) {
            seen.append(x.read()).append(' ').append(x.place()).append(' ');
        } else if (probe > UNDOS) {
            seen.append(x.restore(probe - UNDOS - 1)).append(' ');
        }
        return seen.append(now(x)).toString();
    }

    /** All that is so now, by some hundred and fifty calls. */
    static String now(AbsentLords x) {
        StringBuilder seen = new StringBuilder("count");
        for (int what = 0; what <= 16; what++) {
            seen.append(' ').append(x.count(what));
        }
        for (int house = 0; house < x.count(0); house++) {
            seen.append("; house ").append(house);
            for (int what = 0; what <= 3; what++) {
                seen.append(' ').append(x.house(house, what));
            }
        }
        for (int person = 0; person < x.count(1); person++) {
            seen.append("; person ").append(person);
            for (int what = 0; what <= 8; what++) {
                seen.append(' ').append(x.person(person, what));
            }
        }
        seen.append("; orders");
        for (int k = 0; k <= x.count(10); k++) {
            seen.append(' ').append(x.orders(k));
        }
        // What comes by chance tells the SEED.
        seen.append("; then");
        for (int n = 1; n <= 8; n++) {
            seen.append(' ').append(x.then(n, 0)).append(' ').append(x.then(n, 1));
        }
        return seen.toString();
    }
}
