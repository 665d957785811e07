import java.util.function.Consumer;
import java.util.function.Function;

/** Each sentence of promises 8 to 13, 45 and 46 that names an edge: what is done, undone, held and restored. */
public final class EdgeDeedTest {
    private final Due due = new Due();

    public static void main(String[] args) {
        EdgeDeedTest test = new EdgeDeedTest();
        test.busy();
        test.send();
        test.notSent();
        test.call();
        test.notCalled();
        test.bury();
        test.notBuried();
        test.give();
        test.notGiven();
        test.moreRightsThanTold();
        test.yearsGoBy();
        test.noYears();
        test.noSuchYears();
        test.undoEach();
        test.nothingToUndo();
        test.fortyThings();
        test.hold();
        test.noSlot();
        test.restore();
        test.notRestored();
        test.nothingUndoneThen();
        test.due.end();
    }

    /** What the others of these tests stand on. */
    private void busy() {
        due.about("the county of these tests");
        AbsentLords x = Busy.county();
        int[] want = {5, 7, 3, 8 + 32 + 64, 7, 16, 2 + 4, 15 + 17 + 19, 19, 5, 3, 2, 9, 161, 10, 11 + 10, 0};
        for (int what = 0; what <= 16; what++) {
            due.is("count(" + what + ")", x.count(what), want[what]);
        }
    }

    private void refused(String call, Function<AbsentLords, Boolean> called) {
        due.is(call, called.apply(Busy.county()), false);
        Seen.unchanged(due, call, Busy::county, called::apply);
    }

    private void send() {
        due.about("Promise 8: SENT: true");
        for (int person : new int[] {0, 6}) {
            AbsentLords x = Due.county(Faults.many(7, "person p# 1;"));
            due.is("send " + person, x.send(person), true);
            due.is("AWAY", x.count(4), 1 << person);
            due.is("HOME", x.count(3), 127 - (1 << person));
            due.is("gone 0 years", x.person(person, 2), 0);
            due.is("a thing done", x.count(9), 1);
        }
        AbsentLords x = Due.county("person a 1; away a 9;");
        x.call(0);
        due.is("who was AWAY", x.send(0), true);
        due.is("gone 0 years anew", x.person(0, 2), 0);
    }

    private void notSent() {
        due.about("Promise 8: false, and nothing happens: not HOME, no such PERSON.");
        refused("send of one AWAY", x -> x.send(Busy.AWAY));
        refused("send of one DEAD", x -> x.send(Busy.DEAD));
        for (int person : Edges.NO_PERSON) {
            refused("send(" + person + ")", x -> x.send(person));
        }
    }

    private void call() {
        due.about("Promise 9: CALLED home: true");
        for (int person : new int[] {0, 6}) {
            AbsentLords x = Due.county(Faults.many(7, "person p# 1;") + Faults.many(7, "away p# 9;"));
            due.is("call " + person, x.call(person), true);
            due.is("HOME", x.count(3), 1 << person);
            due.is("AWAY", x.count(4), 127 - (1 << person));
            due.is("a thing done", x.count(9), 1);
        }
        AbsentLords x = Due.county("person a 1; away a 0;");
        due.is("one gone 0 years", x.call(0), true);
    }

    private void notCalled() {
        due.about("Promise 9: false, and nothing happens: not AWAY, no such PERSON.");
        refused("call of one HOME", x -> x.call(Busy.HOME));
        refused("call of one DEAD", x -> x.call(Busy.DEAD));
        for (int person : Edges.NO_PERSON) {
            refused("call(" + person + ")", x -> x.call(person));
        }
    }

    private void bury() {
        due.about("Promise 10: BURIED: true");
        for (int person : new int[] {0, 6}) {
            AbsentLords x = Due.county(Faults.many(7, "person p# 1;") + "away pg 9;");
            due.is("bury " + person, x.bury(person), true);
            due.is("DEAD", x.count(5), 1 << person);
            due.is("a thing done", x.count(9), 1);
        }
        AbsentLords x = Busy.county();
        for (int person = 0; person < 7; person++) {
            due.is("bury " + person, x.bury(person), person != Busy.DEAD);
        }
        due.is("all DEAD", x.count(5), 127);
        due.is("their RIGHTS stay", x.count(12), 9);
    }

    private void notBuried() {
        due.about("Promise 10: false, and nothing happens: DEAD, no such PERSON.");
        refused("bury of one DEAD", x -> x.bury(Busy.DEAD));
        for (int person : Edges.NO_PERSON) {
            refused("bury(" + person + ")", x -> x.bury(person));
        }
    }

    private void give() {
        due.about("Promise 11: A RIGHT is given, or taken: true");
        for (int person = 0; person < 7; person += 6) {
            for (int house = 0; house < 5; house += 4) {
                AbsentLords x = Due.county(Faults.many(5, "house h# 1;") + Faults.many(7, "person p# 1;"));
                due.is("given", x.give(person, house, true), true);
                due.is("who has it", x.house(house, 2), 1 << person);
                due.is("a thing done", x.count(9), 1);
                due.is("taken", x.give(person, house, false), true);
                due.is("nobody has it", x.house(house, 2), 0);
                due.is("two things done", x.count(9), 2);
            }
        }
        due.is("to one DEAD", Busy.county().give(Busy.DEAD, 4, true), true);
        due.is("from one DEAD", Busy.county().give(Busy.DEAD, 1, false), true);
    }

    private void notGiven() {
        due.about("Promise 11: false, and nothing happens: it is so, no such ones.");
        refused("given to one who has it", x -> x.give(0, 0, true));
        refused("taken from one who has it not", x -> x.give(0, 1, false));
        refused("taken from the last one", x -> x.give(6, 0, false));
        for (int person : Edges.NO_PERSON) {
            refused("give(" + person + ", 0, true)", x -> x.give(person, 0, true));
            refused("give(" + person + ", 0, false)", x -> x.give(person, 0, false));
        }
        for (int house : Edges.NO_HOUSE) {
            refused("give(0, " + house + ", true)", x -> x.give(0, house, true));
            refused("give(0, " + house + ", false)", x -> x.give(0, house, false));
        }
        // Those that other texts could have.
        AbsentLords few = Due.county("house h 1; house k 1; person a 1; person b 1;");
        due.is("to the last one", few.give(1, 1, true), true);
        due.is("a HOUSE behind the last", few.give(1, 2, true), false);
        due.is("the HOUSE that could be the last", few.give(1, 4, true), false);
        due.is("a PERSON behind the last", few.give(2, 1, true), false);
        due.is("the PERSON who could be the last", few.give(6, 1, true), false);
        due.is("RIGHTS", few.count(12), 1);
    }

    /** The 20 are of a text: promise 11 refuses nothing else than what it names. */
    private void moreRightsThanTold() {
        due.about("Promise 11: more RIGHTS than a text can tell");
        AbsentLords x = Due.county(Faults.many(5, "house h# 1;") + Faults.many(7, "person p# 1;"));
        int many = 0;
        for (int house = 0; house < 5; house++) {
            for (int person = 0; person < 7; person++) {
                many++;
                due.is("given", x.give(person, house, true), true);
                due.is("RIGHTS", x.count(12), many);
            }
        }
        due.is("share", x.share(6), 5 * 1000 / 35);
        due.is("who has no RIGHT", x.count(16), 0);
    }

    private void yearsGoBy() {
        due.about("Promise 12: n YEARS (0 .. 40) go by: which it is");
        due.is("years(1)", Busy.county().years(1), 4);
        due.is("years(39)", Busy.county().years(39), 42);
        due.is("years(40)", Busy.county().years(40), 43);
        due.is("of nobody", new AbsentLords().years(40), 40);
        AbsentLords chances = Due.county("house h 7; person a 1; person b 1; person c 1; right b h; away b 1;"
                + "goes = 100; comes = 100; dies = if which < 2 then 0 else 100;");
        due.is("with chances", chances.years(1), 1);
        due.is("one went", chances.count(4), 1);
        due.is("one came", chances.count(3), 2);
        due.is("one died", chances.count(5), 4);
        due.is("who came got the RENT", chances.person(1, 3), 7);
        Seen.alike(due, "40 in one go are 40 times one, but that they are one thing:", () -> {
            AbsentLords x = Busy.county();
            x.years(40);
            x.hold(0);
            x.restore(0);
            return x;
        }, () -> {
            AbsentLords x = Busy.county();
            for (int i = 0; i < 40; i++) {
                x.years(1);
            }
            x.hold(0);
            x.restore(0);
            return x;
        });
    }

    private void noYears() {
        due.about("Promise 12: 0 is no thing done");
        due.is("years(0)", Busy.county().years(0), 3);
        due.is("years(0) of a new object", new AbsentLords().years(0), 0);
        Seen.unchanged(due, "years(0)", Busy::county, x -> x.years(0));
        Seen.unchanged(due, "years(0) with chances", () -> Due.county("person a 1; goes = 100;"), x -> x.years(0));
    }

    private void noSuchYears() {
        due.about("Promise 12: NONE, and nothing happens: no such n.");
        for (int n : Edges.NOT_FROM_0) {
            due.is("years(" + n + ")", Busy.county().years(n), AbsentLords.NONE);
            Seen.unchanged(due, "years(" + n + ")", Busy::county, x -> x.years(n));
        }
    }

    private void undone(String call, Consumer<AbsentLords> called) {
        AbsentLords x = Busy.county();
        called.accept(x);
        due.is(call + " undone", x.undo(), true);
        Seen.alike(due, call + " undone:", () -> {
            AbsentLords y = Busy.county();
            called.accept(y);
            y.undo();
            return y;
        }, Busy::county);
    }

    private void undoEach() {
        due.about("Promise 13: The last thing done (send, call, bury, give, years) is undone: true");
        undone("send", x -> x.send(Busy.HOME));
        undone("call", x -> x.call(Busy.AWAY));
        undone("bury of one AWAY", x -> x.bury(Busy.AWAY));
        undone("bury of one HOME", x -> x.bury(Busy.HOME));
        undone("give", x -> x.give(6, 0, true));
        undone("take", x -> x.give(0, 0, false));
        undone("years(1)", x -> x.years(1));
        undone("years(40)", x -> x.years(40));
        // What is no thing done stands between.
        AbsentLords x = Busy.county();
        x.years(0);
        x.send(-1);
        x.tell(0, 1);
        x.hold(1);
        x.feed(0, 0, 0, 0, 0);
        due.is("the last thing is years(1)", x.undo(), true);
        due.is("year", x.count(2), 2);
        due.is("TOLD as it was", x.count(10), 4);
        due.is("SLOTS as they were", x.count(11), 3);
        due.is("the tape as it was", x.count(8), 39);
        due.is("then the give", x.undo(), true);
        due.is("RIGHTS", x.count(12), 8);
    }

    private void nothingToUndo() {
        due.about("Promise 13: false: there is none");
        due.is("of a new object", new AbsentLords().undo(), false);
        due.is("of a new text", Due.county(Busy.TEXT).undo(), false);
        AbsentLords x = Busy.county();
        for (int i = 1; i <= 5; i++) {
            due.is("undo " + i, x.undo(), true);
            due.is("left", x.count(9), 5 - i);
        }
        due.is("a 6th", x.undo(), false);
        due.is("and again", x.undo(), false);
        due.is("year 0", x.count(2), 0);
        Seen.unchanged(due, "undo of nothing", () -> Due.county(Busy.TEXT), AbsentLords::undo);
    }

    private static AbsentLords done(int things) {
        AbsentLords x = Due.county("person a 1;");
        for (int i = 0; i < things; i++) {
            x.years(1);
        }
        return x;
    }

    private void fortyThings() {
        due.about("Promise 13: (the last 40 can be)");
        for (int things : new int[] {1, 39, 40, 41, 79, 80, 81, 200}) {
            AbsentLords x = done(things);
            int most = Math.min(things, 40);
            due.is("things of " + things, x.count(9), most);
            for (int i = 1; i <= most; i++) {
                due.is("undo " + i + " of " + things, x.undo(), true);
                due.is("year", x.count(2), things - i);
            }
            due.is("one more of " + things, x.undo(), false);
            due.is("year stays", x.count(2), things - most);
        }
        // Undone ones make room: of 30 and, behind 10 undone, 25 the last 40 can be undone.
        AbsentLords x = done(30);
        for (int i = 0; i < 10; i++) {
            x.undo();
        }
        for (int i = 0; i < 25; i++) {
            x.years(2);
        }
        due.is("things", x.count(9), 40);
        for (int i = 0; i < 40; i++) {
            due.is("undo", x.undo(), true);
        }
        due.is("no more", x.undo(), false);
        due.is("year 5", x.count(2), 5);
    }

    private void hold() {
        due.about("Promise 45: All that goes on (not what is TOLD, nor the tape) is held in a SLOT (0 .. 2): true");
        for (int slot = 0; slot <= 2; slot++) {
            AbsentLords x = new AbsentLords();
            due.is("hold " + slot + " of a new object", x.hold(slot), true);
            due.is("SLOTS", x.count(11), 1);
            due.is("again", x.hold(slot), true);
            due.is("SLOTS still", x.count(11), 1);
        }
        AbsentLords x = new AbsentLords();
        for (int slot = 2; slot >= 0; slot--) {
            x.years(1);
            x.hold(slot);
        }
        due.is("all three", x.count(11), 3);
        due.is("no thing done", x.count(9), 3);
        for (int slot = 0; slot <= 2; slot++) {
            x.restore(slot);
            due.is("each its own", x.count(2), 3 - slot);
        }
    }

    private void noSlot() {
        due.about("Promise 45: false: no such one.");
        for (int slot : Edges.NO_SLOT) {
            refused("hold(" + slot + ")", x -> x.hold(slot));
        }
    }

    private void restore() {
        due.about("Promise 46: It goes on from what a SLOT holds (that stays there; ..): true");
        for (int slot = 0; slot <= 2; slot++) {
            int held = slot;
            Seen.alike(due, "held in " + slot + " and restored behind much:", () -> {
                AbsentLords x = Due.county(Busy.TEXT);
                x.years(3);
                x.send(0);
                x.hold(held);
                x.give(0, 4, true);
                x.bury(1);
                x.years(20);
                x.restore(held);
                return x;
            }, () -> {
                AbsentLords x = Due.county(Busy.TEXT);
                x.years(3);
                x.send(0);
                x.hold(held);
                x.restore(held);
                return x;
            });
        }
        AbsentLords x = Busy.county();
        x.restore(2);
        x.years(7);
        due.is("again", x.restore(2), true);
        due.is("that stays there", x.count(2), 2);
        x.restore(0);
        due.is("the other, too", x.count(2), 0);
        due.is("TOLD stays", x.count(10), 3);
        due.is("the tape stays", x.count(8), 19);
        due.is("SLOTS", x.count(11), 2);
    }

    private void notRestored() {
        due.about("Promise 46: false, and nothing happens: no such one, nothing is held.");
        refused("restore(1), where nothing is held", x -> x.restore(1));
        for (int slot : Edges.NO_SLOT) {
            refused("restore(" + slot + ")", x -> x.restore(slot));
        }
        for (int slot = 0; slot <= 2; slot++) {
            due.is("of a new object", new AbsentLords().restore(slot), false);
        }
    }

    private void nothingUndoneThen() {
        due.about("Promise 46: nothing can be undone then");
        AbsentLords x = Busy.county();
        x.restore(0);
        due.is("things", x.count(9), 0);
        due.is("undo", x.undo(), false);
        x.years(1);
        due.is("what is done since", x.undo(), true);
        due.is("and no more", x.undo(), false);
        AbsentLords y = done(45);
        y.hold(0);
        y.restore(0);
        due.is("of forty", y.undo(), false);
        due.is("year", y.count(2), 45);
    }
}
