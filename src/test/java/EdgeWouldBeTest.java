import java.util.function.Consumer;

/** Each sentence of promises 14 to 20 and 29 to 32 that names an edge: what would be, without and with chances. */
public final class EdgeWouldBeTest {
    private static final int NONE = AbsentLords.NONE;
    private static final int NOBODY = -2;
    private static final int NO_LOSS = -100000;
    private static final String ALL_CHANCES = "goes = 100; comes = 100; dies = 100;";

    private final Due due = new Due();

    public static void main(String[] args) {
        EdgeWouldBeTest test = new EdgeWouldBeTest();
        test.nothingHappens();
        test.noChances();
        test.heir();
        test.race();
        test.gain();
        test.best();
        test.bestBehindAll();
        test.notBest();
        test.loss();
        test.noLoss();
        test.duel();
        test.notDuel();
        test.rest();
        test.inYears();
        test.notInYears();
        test.year();
        test.yearBySeeds();
        test.notYear();
        test.due.end();
    }

    private void asked(String call, Consumer<AbsentLords> called) {
        Seen.unchanged(due, call, Busy::county, called);
    }

    private void nothingHappens() {
        due.about("What would be (nothing happens; ..)");
        asked("heir", x -> x.heir(0));
        asked("race", x -> x.race(0));
        asked("gain", x -> x.gain(1, 40));
        asked("best", x -> x.best(3, 40, 0));
        asked("loss", x -> x.loss(1, 40));
        asked("duel", x -> x.duel(3, 5, 40, 3, 1));
        asked("rest", x -> x.rest(3, 5, 40));
        asked("fill", x -> x.fill(1));
        asked("richest", x -> x.richest(1));
        asked("eldest", x -> x.eldest(1));
        asked("agents", x -> x.agents(1));
        asked("lords", x -> x.lords(4));
        asked("bound", x -> x.bound(0));
        asked("idle", x -> x.idle());
        asked("share", x -> x.share(0));
        asked("lordIn", x -> x.lordIn(0, 40));
        asked("then", x -> x.then(40, 0));
        asked("gotIn", x -> x.gotIn(0, 40));
        asked("year", x -> x.year(0, 40, 20));
        asked("letters", x -> {
            x.orders(3);
            x.first(3, 0);
            x.last(3, 0);
            x.placed(3, 0, 0);
            x.before(3, 0, 1);
            x.sum(3, 0);
            x.ahead(3, 0);
            x.foremost(3);
            x.ask(3);
            x.order(3, 0, 0);
        });
        asked("what is so", x -> {
            x.house(0, 3);
            x.person(0, 6);
            x.count(15);
            x.place();
        });
    }

    private void noChances() {
        due.about("nobody dies, goes or comes by chance but in IN n YEARS and YEAR");
        String county = "house h 5; house k 7; person a 1; person b 1; person c 1; right a h; right b k; right c k; away a 1;";
        AbsentLords x = Due.county(county + ALL_CHANCES);
        AbsentLords y = Due.county(county);
        due.is("gain", x.gain(0, 40), 200);
        due.is("gain of one HOME", x.gain(1, 40), 0);
        due.is("best", x.best(1, 40, 1), 280);
        due.is("loss", x.loss(0, 40), 0);
        String two = "house h 5; person a 1; person b 1; right a h; right b h; away a 2; away b 1;";
        due.is("loss to the next", Due.county(two + ALL_CHANCES).loss(0, 40), 200);
        due.is("duel", x.duel(1, 2, 40, 3, 0), 280);
        due.is("rest", x.rest(1, 2, 40), y.rest(1, 2, 40));
        due.is("IN n YEARS", x.then(1, 2), 7);
        due.is("YEAR", x.year(0, 1, 20), 0);
        due.is("YEAR without", y.year(0, 1, 20), 20);
    }

    private void heir() {
        due.about("Promise 14: HEIR (-2: nobody); NONE: no such HOUSE.");
        AbsentLords x = Busy.county();
        due.is("a behind b", x.heir(0), 0);
        due.is("c alone", x.heir(1), NOBODY);
        due.is("no LANDLORD, no RIGHTS", x.heir(2), NOBODY);
        due.is("no LANDLORD, all HOME", x.heir(3), NOBODY);
        due.is("the last HOUSE", x.heir(4), NOBODY);
        x.send(6);
        x.give(0, 4, true);
        due.is("the last HOUSE, two", x.heir(4), 6);
        for (int house : Edges.NO_HOUSE) {
            due.is("heir(" + house + ")", x.heir(house), NONE);
        }
        due.is("no HOUSES", new AbsentLords().heir(0), NONE);
        AbsentLords alike = Due.county("house h 1; person a 1; person b 1; person c 1; right a h; right b h; right c h;"
                + "away a 4; away b 4; away c 4;");
        due.is("of alike ones the next", alike.heir(0), 1);
        alike.bury(0);
        due.is("the one behind", alike.heir(0), 2);
        alike.bury(1);
        due.is("nobody behind", alike.heir(0), NOBODY);
        alike.bury(2);
        due.is("all DEAD", alike.heir(0), NOBODY);
    }

    private void race() {
        due.about("Promise 18: RACE; -2: no LANDLORD, no HEIR; NONE: no such HOUSE.");
        AbsentLords x = Busy.county();
        due.is("6 and 1", x.race(0), 5);
        due.is("no HEIR", x.race(1), NOBODY);
        due.is("no LANDLORD", x.race(2), NOBODY);
        due.is("the last HOUSE", x.race(4), NOBODY);
        for (int house : Edges.NO_HOUSE) {
            due.is("race(" + house + ")", x.race(house), NONE);
        }
        due.is("no HOUSES", new AbsentLords().race(0), NONE);
        String county = "house h 1; person a 1; person b 1; right a h; right b h;";
        due.is("alike", Due.county(county + "away a 7; away b 7;").race(0), 0);
        due.is("one year", Due.county(county + "away a 6; away b 7;").race(0), 1);
        AbsentLords most = Due.county(county + "away a 0; away b 99;");
        due.is("99", most.race(0), 99);
        most.years(40);
        due.is("99 still", most.race(0), 99);
    }

    private void gain() {
        due.about("Promise 15: GAIN (n 0 .. 40); NONE: no such ones.");
        AbsentLords x = Busy.county();
        due.is("0 YEARS", x.gain(1, 0), 0);
        due.is("1 YEAR", x.gain(1, 1), 11);
        due.is("39 YEARS", x.gain(1, 39), 39 * 11 + 38 * 39 / 2);
        due.is("40 YEARS", x.gain(1, 40), 40 * 11 + 39 * 40 / 2);
        due.is("HOME", x.gain(6, 40), 0);
        due.is("DEAD", x.gain(Busy.DEAD, 40), 0);
        for (int n : Edges.NOT_FROM_0) {
            due.is("gain(1, " + n + ")", x.gain(1, n), NONE);
        }
        for (int person : Edges.NO_PERSON) {
            due.is("gain(" + person + ", 1)", x.gain(person, 1), NONE);
        }
        AbsentLords most = Due.county(Faults.many(5, "house h# 99;") + Faults.many(7, "person p# 1;")
                + Faults.many(5, "right pg h#;") + "away pg 1;");
        due.is("all HOUSES of the last PERSON", most.gain(6, 40), 40 * 495);
        due.is("so far is not in it", afterYears(most, 40).gain(6, 40), 40 * 495);
    }

    private static AbsentLords afterYears(AbsentLords x, int n) {
        x.years(n);
        return x;
    }

    private void best() {
        due.about("BEST of a PERSON HOME for n YEARS (1 .. 40)");
        AbsentLords x = Due.county("house h 10; person a 1; right a h;");
        for (int n = 1; n <= 40; n++) {
            due.is("at once, for " + n, x.best(0, n, 0), 0);
            due.is("how much", x.best(0, n, 1), 10 * n);
        }
        due.about("BEST: .. of alike ones the first");
        AbsentLords nothing = Due.county("house h 10; person a 1;");
        due.is("nothing to get", nothing.best(0, 40, 0), 0);
        due.is("how much", nothing.best(0, 40, 1), 0);
        AbsentLords late = Due.county("house h 10; person a 1; right a h; rents = if year < 39 then 0 else 10;");
        due.is("alike whenever", late.best(0, 40, 0), 0);
        due.is("how much", late.best(0, 40, 1), 10);
        // Going at once gets nothing in year 1, going behind a year gets nothing in year 0.
        AbsentLords even = Due.county("house h 10; person a 1; right a h; rents = if gone < 1 then 5 else if year < 2 then 0 else 5;");
        due.is("0 and 1 alike", even.best(0, 2, 0), 0);
        due.is("how much", even.best(0, 2, 1), 5);
        due.is("for 4", even.best(0, 4, 0), 0);
        due.is("for 4, how much", even.best(0, 4, 1), 15);
    }

    private void bestBehindAll() {
        due.about("BEST: behind how many YEARS (0 .. n less 1), going then, they get most in all n");
        AbsentLords x = Due.county("house h 10; person a 1; right a h; rents = if year < 39 then 0 else 50 - gone;");
        due.is("behind 39 of 40", x.best(0, 40, 0), 39);
        due.is("how much", x.best(0, 40, 1), 50);
        due.is("for 39 there is nothing", x.best(0, 39, 1), 0);
        due.is("so at once", x.best(0, 39, 0), 0);
        AbsentLords y = Due.county("house h 10; person a 1; right a h; rents = if year < 1 then 1 else 50 - gone * 25;");
        due.is("behind 1 of 2", y.best(0, 2, 0), 1);
        due.is("50", y.best(0, 2, 1), 50);
        due.is("of 1", y.best(0, 1, 0), 0);
        // Another one has the HOUSE from the day that both are gone alike, being the first.
        AbsentLords z = Due.county("house h 10; person a 1; person b 1; right a h; right b h; away a 0;");
        due.is("never LANDLORD", z.best(1, 40, 1), 0);
        AbsentLords w = Due.county("house h 10; person a 1; person b 1; right a h; right b h; away b 0;");
        due.is("going at once, being the first", w.best(0, 40, 1), 400);
        w.years(1);
        due.is("a year late", w.best(0, 40, 1), 0);
    }

    private void notBest() {
        due.about("Promise 16: NONE: not HOME, no such ones.");
        AbsentLords x = Busy.county();
        due.is("AWAY", x.best(Busy.AWAY, 5, 0), NONE);
        due.is("DEAD", x.best(Busy.DEAD, 5, 0), NONE);
        due.is("HOME", x.best(6, 5, 1), 50 + 51 + 52 + 53 + 54 + 5 * 99);
        for (int n : Edges.NOT_FROM_1) {
            due.is("best(3, " + n + ", 0)", x.best(3, n, 0), NONE);
            due.is("best(3, " + n + ", 1)", x.best(3, n, 1), NONE);
        }
        for (int person : Edges.NO_PERSON) {
            due.is("best(" + person + ", 1, 0)", x.best(person, 1, 0), NONE);
        }
        for (int what : Edges.NO_WHAT) {
            due.is("best(3, 1, " + what + ")", x.best(3, 1, what), NONE);
        }
    }

    private void loss() {
        due.about("LOSS of a PERSON AWAY for n YEARS (0 .. 40): .. (may be below 0)");
        AbsentLords x = Busy.county();
        due.is("0 YEARS", x.loss(1, 0), 0);
        due.is("1 YEAR: a's 6 and nothing lost to others", x.loss(1, 1), 6);
        due.is("40 YEARS", x.loss(1, 40), 40 * 6 + 39 * 40 / 2);
        due.is("one who is no LANDLORD", x.loss(0, 40), 0);
        due.is("nobody behind", x.loss(2, 40), 0);
        String county = "house h 10; house k 20; person a 1; person b 1; person c 1; right a h; right b k; away a 1; away b 1;";
        AbsentLords below = Due.county(county + "rents = rent - home * 4;");
        due.is("below 0", below.loss(0, 1), -4);
        due.is("below 0, 40 YEARS", below.loss(0, 40), -160);
        below.years(3);
        due.is("so far is not in it", below.loss(0, 40), -160);
        AbsentLords more = Due.county(Faults.many(5, "house h# 0;") + "person a 1; person b 1; person c 1;"
                + Faults.many(5, "right b h#;") + "away a 1; away b 1; rents = if home < 2 then 99 else 0;");
        due.is("the most below 0", more.loss(0, 40), -40 * 495);
    }

    private void noLoss() {
        due.about("Promise 17: -100000: not AWAY, no such ones.");
        AbsentLords x = Busy.county();
        due.is("HOME", x.loss(Busy.HOME, 5), NO_LOSS);
        due.is("DEAD", x.loss(Busy.DEAD, 5), NO_LOSS);
        for (int n : Edges.NOT_FROM_0) {
            due.is("loss(1, " + n + ")", x.loss(1, n), NO_LOSS);
        }
        for (int person : Edges.NO_PERSON) {
            due.is("loss(" + person + ", 1)", x.loss(person, 1), NO_LOSS);
        }
    }

    private void duel() {
        due.about("DUEL of two HOME for n YEARS (1 .. 40): choice 0: both stay, 1: the first goes alone, 2: the other alone, 3: both");
        String county = "house h 10; house k 20; house l 40; person a 1; person b 1; person c 1; right a h; right b h; right b k;"
                + "right c l; right c h;";
        int[] first = {0, 10, 0, 10};
        int[] other = {0, 0, 30, 20};
        for (int n : new int[] {1, 39, 40}) {
            for (int choice = 0; choice < 4; choice++) {
                int turned = choice == 1 ? 2 : choice == 2 ? 1 : choice;
                AbsentLords x = Due.county(county);
                due.is("a, choice " + choice, x.duel(0, 1, n, choice, 0), n * first[choice]);
                due.is("b, choice " + choice, x.duel(0, 1, n, choice, 1), n * other[choice]);
                due.is("b first, choice " + turned, x.duel(1, 0, n, turned, 0), n * other[choice]);
                due.is("a other, choice " + turned, x.duel(1, 0, n, turned, 1), n * first[choice]);
            }
        }
        AbsentLords away = Due.county(county + "away c 0;");
        due.is("behind c, who is gone alike", away.duel(0, 1, 40, 3, 0), 400);
        away.years(1);
        due.is("behind c, who is gone longer", away.duel(0, 1, 40, 3, 0), 0);
        due.is("what c has not", away.duel(0, 1, 40, 3, 1), 800);
        AbsentLords rich = Due.county(county + "away a 9; away b 9;");
        rich.years(2);
        rich.call(0);
        rich.call(1);
        due.is("a got so far", rich.person(0, 3), 20);
        due.is("b got so far", rich.person(1, 3), 40);
        for (int choice = 0; choice < 4; choice++) {
            due.is("a, so far is not in it", rich.duel(0, 1, 1, choice, 0), first[choice]);
            due.is("b, so far is not in it", rich.duel(0, 1, 1, choice, 1), other[choice]);
        }
    }

    private void notDuel() {
        due.about("Promises 19 and 20: NONE: not both HOME, no such ones, one and the same.");
        AbsentLords x = Busy.county();
        due.is("both HOME", x.duel(3, 5, 1, 2, 1), 99);
        due.is("the last one", x.duel(3, 6, 1, 2, 1), 149);
        int[] notHome = {Busy.AWAY, Busy.DEAD};
        for (int person : notHome) {
            due.is("first not HOME", x.duel(person, 3, 1, 0, 0), NONE);
            due.is("other not HOME", x.duel(3, person, 1, 0, 0), NONE);
            due.is("rest, first not HOME", x.rest(person, 3, 1), NONE);
            due.is("rest, other not HOME", x.rest(3, person, 1), NONE);
        }
        due.is("both not HOME", x.duel(0, 1, 1, 0, 0), NONE);
        due.is("one and the same", x.duel(3, 3, 1, 0, 0), NONE);
        due.is("rest, one and the same", x.rest(3, 3, 1), NONE);
        for (int n : Edges.NOT_FROM_1) {
            due.is("duel, n " + n, x.duel(3, 5, n, 0, 0), NONE);
            due.is("rest, n " + n, x.rest(3, 5, n), NONE);
        }
        for (int person : Edges.NO_PERSON) {
            due.is("duel " + person, x.duel(person, 3, 1, 0, 0), NONE);
            due.is("duel, other " + person, x.duel(3, person, 1, 0, 0), NONE);
            due.is("rest " + person, x.rest(person, 3, 1), NONE);
            due.is("rest, other " + person, x.rest(3, person, 1), NONE);
        }
        for (int choice : new int[] {-1, -2, 4, 5, Integer.MAX_VALUE, Integer.MIN_VALUE}) {
            due.is("choice " + choice, x.duel(3, 5, 1, choice, 0), NONE);
        }
        for (int what : Edges.NO_WHAT) {
            due.is("what " + what, x.duel(3, 5, 1, 0, what), NONE);
        }
    }

    private void rests(String laws, int want) {
        AbsentLords x = Due.county("house h 9; house k 9; person a 1; person b 1; person c 1; right a h; right b k; right c h; right c k;"
                + laws);
        for (int n : new int[] {1, 40}) {
            due.is("rest of " + laws, x.rest(0, 1, n), want);
        }
    }

    private void rest() {
        due.about("REST of them: choices from which neither, turning alone, would get more (bits)");
        rests("rents = 9;", 8);
        rests("rents = 0;", 15);
        // Nobody gets more by going: whoever is LANDLORD gets nothing.
        rests("rents = rent - 9;", 15);
        // One alone gets something, both nothing: each going is at rest, as turning back is no more.
        rests("rents = rent * (home - 1);", 2 + 4 + 8);
        // Both together get something, one alone nothing: staying is at rest, too.
        rests("rents = rent * (2 - home);", 1 + 8);
        // Only the first gets anything, and only alone.
        rests("rents = if which < 1 then rent * (home - 1) else 0;", 2 + 4 + 8);
        // Only the other gets anything, and only alone.
        rests("rents = if which < 1 then 0 else rent * (home - 1);", 2 + 4 + 8);
        // Only the other gets anything, whatever the first does.
        rests("rents = if which < 1 then 0 else rent;", 4 + 8);
        rests("rents = if which < 1 then rent else 0;", 2 + 8);
        // The first gets something only alone, the other only with the first.
        rests("rents = if which < 1 then rent * (home - 1) else rent * (2 - home);", 4 + 8);
    }

    private void inYears() {
        due.about("IN n YEARS (0 .. 40; with all chances)");
        for (int n : new int[] {0, 1, 5, 39, 40}) {
            AbsentLords x = Busy.county();
            AbsentLords y = Busy.county();
            y.years(n);
            for (int house = 0; house < 5; house++) {
                due.is("lordIn " + n, x.lordIn(house, n), y.house(house, 1));
            }
            for (int person = 0; person < 7; person++) {
                due.is("gotIn " + n, x.gotIn(person, n), y.person(person, 3));
            }
            for (int what = 0; what < 3; what++) {
                due.is("then " + n, x.then(n, what), y.count(3 + what));
            }
        }
        AbsentLords x = Busy.county();
        due.is("0 YEARS", x.lordIn(0, 0), 1);
        due.is("nobody", x.lordIn(2, 40), NOBODY);
        due.is("so far", x.gotIn(1, 0), 27);
        for (int n : new int[] {0, 1, 2}) {
            due.is("HOME in " + n, x.then(n, 0), 8 + 32 + 64);
            due.is("AWAY in " + n, x.then(n, 1), 1 + 2 + 4);
            due.is("DEAD in " + n, x.then(n, 2), 16);
        }
        AbsentLords each = Due.county("person a 1; person b 1; person c 1; away b 1; goes = 100; comes = 100;"
                + "dies = if which < 2 then 0 else 100;");
        due.is("who came", each.then(1, 0), 2);
        due.is("who went", each.then(1, 1), 1);
        due.is("who died", each.then(1, 2), 4);
        AbsentLords all = Due.county("house h 5; person a 1; right a h; away a 1;" + ALL_CHANCES);
        due.is("by then", all.gotIn(0, 1), 5);
        due.is("and no more", all.gotIn(0, 40), 5);
        due.is("nobody then", all.lordIn(0, 1), NOBODY);
        due.is("no PEOPLE", new AbsentLords().then(40, 2), 0);
    }

    private void notInYears() {
        due.about("Promises 29 to 31: NONE: no such ones.");
        AbsentLords x = Busy.county();
        for (int n : Edges.NOT_FROM_0) {
            due.is("lordIn(0, " + n + ")", x.lordIn(0, n), NONE);
            due.is("then(" + n + ", 0)", x.then(n, 0), NONE);
            due.is("gotIn(0, " + n + ")", x.gotIn(0, n), NONE);
        }
        for (int house : Edges.NO_HOUSE) {
            due.is("lordIn(" + house + ", 0)", x.lordIn(house, 0), NONE);
        }
        for (int person : Edges.NO_PERSON) {
            due.is("gotIn(" + person + ", 0)", x.gotIn(person, 0), NONE);
        }
        for (int what : new int[] {-1, -3, 3, 4, Integer.MAX_VALUE, Integer.MIN_VALUE}) {
            due.is("then(0, " + what + ")", x.then(0, what), NONE);
            due.is("then(40, " + what + ")", x.then(40, what), NONE);
        }
        due.is("no HOUSES", new AbsentLords().lordIn(0, 0), NONE);
        due.is("no PEOPLE", new AbsentLords().gotIn(0, 0), NONE);
    }

    private void year() {
        due.about("YEAR by s SEEDS (1 .. 20): in how many of them a PERSON is LANDLORD of any HOUSE in n YEARS (0 .. 40)");
        String county = "house h 5; house k 5; person a 1; person b 1; right a h; right a k; away a 1;";
        AbsentLords x = Due.county(county);
        for (int s : new int[] {1, 2, 19, 20}) {
            for (int n : new int[] {0, 1, 39, 40}) {
                due.is("always, of two HOUSES", x.year(0, n, s), s);
                due.is("never", x.year(1, n, s), 0);
            }
        }
        AbsentLords comes = Due.county(county + "comes = 100;");
        due.is("now", comes.year(0, 0, 20), 20);
        due.is("then", comes.year(0, 1, 20), 0);
        AbsentLords last = Due.county(Faults.many(5, "house h# 1;") + Faults.many(7, "person p# 1;") + "right pg he; away pg 1;");
        due.is("the last HOUSE of the last PERSON", last.year(6, 40, 20), 20);
        due.is("no HOUSES", Due.county("person a 1; away a 1;").year(0, 0, 1), 0);
        last.bury(6);
        due.is("DEAD", last.year(6, 0, 20), 0);
    }

    private void yearBySeeds() {
        due.about("YEAR by s SEEDS .. from the text's SEED on");
        String county = "house h 5; person a 1; right a h; goes = 50; comes = 50;";
        for (int seed : new int[] {0, 1, 77, 9979, 9980}) {
            for (int n : new int[] {1, 2, 40}) {
                int times = 0;
                for (int s = 1; s <= 20; s++) {
                    AbsentLords one = Due.county(county + "seed " + (seed + s - 1) + ";");
                    times += one.lordIn(0, n) == 0 ? 1 : 0;
                    due.is("by " + s + " from " + seed, Due.county(county + "seed " + seed + ";").year(0, n, s), times);
                }
            }
        }
        // Above 9999 there are more: the lots of 9999 and 10000 for the first to go are 46 and 64.
        String late = "house h 5; person a 1; right a h; seed 9999;";
        due.is("9999 and on", Due.county(late + "goes = 47;").year(0, 1, 2), 1);
        due.is("9999 and on, both", Due.county(late + "goes = 65;").year(0, 1, 2), 2);
    }

    private void notYear() {
        due.about("Promise 32: NONE: no such ones.");
        AbsentLords x = Busy.county();
        for (int s : new int[] {0, -1, 21, 22, Integer.MAX_VALUE, Integer.MIN_VALUE}) {
            due.is("s " + s, x.year(0, 1, s), NONE);
        }
        for (int n : Edges.NOT_FROM_0) {
            due.is("n " + n, x.year(0, n, 1), NONE);
        }
        for (int person : Edges.NO_PERSON) {
            due.is("person " + person, x.year(person, 1, 1), NONE);
        }
        due.is("no PEOPLE", new AbsentLords().year(0, 0, 1), NONE);
    }
}
