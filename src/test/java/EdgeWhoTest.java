/** Each sentence of promises 6, 7, 21 to 28 and 47 that names an edge: what is so, who of all, and numbers. */
public final class EdgeWhoTest {
    private static final int NONE = AbsentLords.NONE;
    private static final int NOBODY = -2;
    private static final String HOUSES = Faults.many(5, "house h# 1;");
    private static final String PEOPLE = Faults.many(7, "person p# 1;");
    private static final String ALL_AWAY = Faults.many(7, "away p# 1;");

    private final Due due = new Due();

    public static void main(String[] args) {
        EdgeWhoTest test = new EdgeWhoTest();
        test.house();
        test.noHouse();
        test.person();
        test.noPerson();
        test.fill();
        test.fillWithout();
        test.leastBits();
        test.agents();
        test.noWhat();
        test.richest();
        test.eldest();
        test.lordsMost();
        test.lordsAlike();
        test.noLords();
        test.bound();
        test.notBound();
        test.idle();
        test.share();
        test.noShare();
        test.countEmpty();
        test.countFull();
        test.countOthers();
        test.due.end();
    }

    private void house() {
        due.about("Promise 6: Of a HOUSE: what 0 RENT, 1 the LANDLORD (-2: nobody), 2 who has a RIGHT (bits), 3 RENTS now (nobody: 0).");
        AbsentLords x = Due.county("house h 0; house k 99; house l 1; house m 2; house n 3;" + PEOPLE + Faults.many(7, "right p# n;")
                + "right pg k; away pg 0; rents = rent + 50;");
        int[][] want = {{0, NOBODY, 0, 0}, {99, 6, 64, 99}, {1, NOBODY, 0, 0}, {2, NOBODY, 0, 0}, {3, 6, 127, 53}};
        for (int house = 0; house < 5; house++) {
            for (int what = 0; what <= 3; what++) {
                due.is("house(" + house + ", " + what + ")", x.house(house, what), want[house][what]);
            }
        }
        x.bury(6);
        due.is("nobody", x.house(4, 1), NOBODY);
        due.is("nobody: 0", x.house(4, 3), 0);
        due.is("the DEAD have it still", x.house(4, 2), 127);
    }

    private void noHouse() {
        due.about("Promise 6: NONE for others.");
        AbsentLords x = Busy.county();
        for (int what = 0; what <= 3; what++) {
            for (int house : Edges.NO_HOUSE) {
                due.is("house(" + house + ", " + what + ")", x.house(house, what), NONE);
            }
            due.is("no HOUSES", new AbsentLords().house(0, what), NONE);
        }
        for (int what : new int[] {-1, -2, 4, 5, Integer.MAX_VALUE, Integer.MIN_VALUE}) {
            for (int house = 0; house < 5; house++) {
                due.is("house(" + house + ", " + what + ")", x.house(house, what), NONE);
            }
        }
    }

    private void person() {
        due.about("Promise 7: Of a PERSON: what 0 age, 1: 0 HOME, 1 AWAY, 2 DEAD, 2 gone, 3 got, 4 HOUSES .., 5 .. (bits), 6 GOES, 7 COMES, 8 DIES now.");
        AbsentLords x = Busy.county();
        int[][] want = {{13, 1, 1, 0, 1, 0, 0, 0, 0}, {23, 1, 6, 27, 1, 1, 0, 0, 0}, {33, 1, 3, 24, 2, 2, 0, 0, 0},
            {43, 0, 0, 0, 3, 0, 0, 0, 0}, {2, 2, 0, 0, 2, 0, 0, 0, 0}, {102, 0, 0, 0, 8, 0, 0, 0, 0}, {18, 0, 0, 0, 24, 0, 0, 0, 0}};
        for (int person = 0; person < 7; person++) {
            for (int what = 0; what <= 8; what++) {
                due.is("person(" + person + ", " + what + ")", x.person(person, what), want[person][what]);
            }
        }
        x.years(2);
        for (int person = 0; person < 7; person++) {
            due.is("GOES now", x.person(person, 6), 40);
            due.is("COMES now", x.person(person, 7), 30);
            due.is("DIES now", x.person(person, 8), 0);
        }
        AbsentLords all = Due.county(HOUSES + "person a 1;" + Faults.many(5, "right a h#;") + "away a 0;");
        due.is("all HOUSES, a RIGHT", all.person(0, 4), 31);
        due.is("all HOUSES, LANDLORD", all.person(0, 5), 31);
    }

    private void noPerson() {
        due.about("Promise 7: NONE for others.");
        AbsentLords x = Busy.county();
        for (int what = 0; what <= 8; what++) {
            for (int person : Edges.NO_PERSON) {
                due.is("person(" + person + ", " + what + ")", x.person(person, what), NONE);
            }
            due.is("no PEOPLE", new AbsentLords().person(0, what), NONE);
        }
        for (int what : new int[] {-1, -2, 9, 10, Integer.MAX_VALUE, Integer.MIN_VALUE}) {
            for (int person = 0; person < 7; person++) {
                due.is("person(" + person + ", " + what + ")", x.person(person, what), NONE);
            }
        }
    }

    private void fills(String when, AbsentLords x, int who) {
        due.is("fill, how many: " + when, x.fill(0), Integer.bitCount(who));
        due.is("fill, who: " + when, x.fill(1), who);
    }

    private void fill() {
        due.about("FILL: the fewest PEOPLE HOME who must be SENT so that no HOUSE is IDLE ..");
        String ring = "right pa ha; right pb hb; right pc hc; right pd hd; right pe he;";
        AbsentLords x = Due.county(HOUSES + PEOPLE + ring);
        fills("five", x, 31);
        int left = 31;
        for (int person = 0; person < 5; person++) {
            x.send(person);
            left &= ~(1 << person);
            fills(person + " is AWAY", x, left);
        }
        AbsentLords last = Due.county(HOUSES + PEOPLE + Faults.many(5, "right pg h#;"));
        fills("the last PERSON for all", last, 64);
        due.is("sent", last.send(6), true);
        due.is("no HOUSE is IDLE then", last.idle(), 0);
        fills("nobody more", last, 0);
    }

    private void fillWithout() {
        due.about("FILL: .. in which anybody HOME or AWAY has a RIGHT");
        fills("no HOUSES, no PEOPLE", new AbsentLords(), 0);
        fills("no RIGHTS", Due.county(HOUSES + PEOPLE), 0);
        fills("no PEOPLE", Due.county(HOUSES), 0);
        fills("no HOUSES", Due.county(PEOPLE), 0);
        AbsentLords x = Due.county(HOUSES + PEOPLE + "right pa ha; right pb hb;");
        x.bury(0);
        fills("only the DEAD have one", x, 2);
        x.bury(1);
        fills("all who have one are DEAD", x, 0);
        // One AWAY keeps a HOUSE from being IDLE, one HOME does not.
        fills("one AWAY, one HOME", Due.county(HOUSES + PEOPLE + "right pa ha; right pb ha; away pa 0;"), 0);
        fills("another HOUSE's", Due.county(HOUSES + PEOPLE + "right pa ha; right pb hb; away pa 0;"), 2);
    }

    private void leastBits() {
        due.about("FILL, AGENTS: who, of as many the least bits");
        // One of two.
        AbsentLords one = Due.county(HOUSES + PEOPLE + "right pf ha; right pg ha;");
        fills("f, not g", one, 32);
        due.is("agents f", one.agents(1), 32);
        // {c, d} and {a, e}: c and d are fewer bits as a number.
        AbsentLords two = Due.county(HOUSES + PEOPLE + "right pa ha; right pa hb; right pe hc; right pe hd;"
                + "right pc ha; right pc hc; right pd hb; right pd hd;");
        fills("c and d", two, 12);
        due.is("agents c and d", two.agents(1), 12);
        // Fewer are ahead of lesser bits: g alone serves what a and b do.
        AbsentLords fewer = Due.county(HOUSES + PEOPLE + "right pa ha; right pb hb; right pg ha; right pg hb;");
        fills("g alone", fewer, 64);
        due.is("agents g", fewer.agents(1), 64);
        due.is("agents, one", fewer.agents(0), 1);
    }

    private void agents() {
        due.about("AGENTS: the fewest PEOPLE, alive, who have RIGHTS in all HOUSES in which anybody alive has one");
        due.is("nobody", new AbsentLords().agents(0), 0);
        due.is("nobody, who", new AbsentLords().agents(1), 0);
        due.is("no RIGHTS", Due.county(HOUSES + PEOPLE).agents(1), 0);
        due.is("no PEOPLE", Due.county(HOUSES).agents(1), 0);
        AbsentLords x = Due.county(HOUSES + PEOPLE + "right pa ha; right pb hb; right pc hc; right pd hd; right pe he; right pg ha; away pa 1;");
        due.is("five, HOME or AWAY alike", x.agents(1), 31);
        due.is("how many", x.agents(0), 5);
        x.bury(0);
        due.is("not the DEAD", x.agents(1), 64 + 30);
        x.bury(1);
        due.is("nor their HOUSE", x.agents(1), 64 + 28);
        for (int person = 2; person < 7; person++) {
            x.bury(person);
        }
        due.is("all DEAD", x.agents(1), 0);
        due.is("all DEAD, how many", x.agents(0), 0);
    }

    private void noWhat() {
        due.about("Promises 21 to 24: NONE for others.");
        AbsentLords[] all = {new AbsentLords(), Busy.county(), Due.county(HOUSES + PEOPLE)};
        for (AbsentLords x : all) {
            for (int what : Edges.NO_WHAT) {
                due.is("fill(" + what + ")", x.fill(what), NONE);
                due.is("richest(" + what + ")", x.richest(what), NONE);
                due.is("eldest(" + what + ")", x.eldest(what), NONE);
                due.is("agents(" + what + ")", x.agents(what), NONE);
            }
        }
    }

    private void richest() {
        due.about("Promise 22: RICHEST: who got most so far, of alike ones the first; -2: no PEOPLE.");
        due.is("no PEOPLE, who", new AbsentLords().richest(0), NOBODY);
        due.is("no PEOPLE, how much", new AbsentLords().richest(1), NOBODY);
        due.is("HOUSES alone", Due.county(HOUSES).richest(0), NOBODY);
        due.is("nothing got", Due.county(PEOPLE).richest(0), 0);
        due.is("nothing got, how much", Due.county(PEOPLE).richest(1), 0);
        AbsentLords x = Due.county("house h 10; house k 10; house l 11;" + PEOPLE + "right pb h; right pc k; away pb 1; away pc 1;");
        x.years(1);
        due.is("b and c alike", x.richest(0), 1);
        x.give(6, 2, true);
        x.send(6);
        x.years(10);
        due.is("110 and 110", x.richest(0), 1);
        x.years(1);
        due.is("121 of the last one", x.richest(0), 6);
        due.is("how much", x.richest(1), 121);
        for (int person = 0; person < 7; person++) {
            x.bury(person);
        }
        due.is("of all DEAD", x.richest(0), 6);
    }

    private void eldest() {
        due.about("Promise 23: ELDEST: who alive is oldest, of alike ones the first; -2: nobody is alive.");
        due.is("no PEOPLE, who", new AbsentLords().eldest(0), NOBODY);
        due.is("no PEOPLE, the age", new AbsentLords().eldest(1), NOBODY);
        AbsentLords x = Due.county("person a 0; person b 98; person c 99; person d 99; away c 1;");
        int[] who = {2, 3, 1, 0};
        int[] age = {99, 99, 98, 0};
        for (int i = 0; i < 4; i++) {
            due.is("who", x.eldest(0), who[i]);
            due.is("the age", x.eldest(1), age[i]);
            x.bury(who[i]);
        }
        due.is("nobody alive, who", x.eldest(0), NOBODY);
        due.is("nobody alive, the age", x.eldest(1), NOBODY);
        AbsentLords later = Due.county("person a 9; person b 9; person c 8;");
        later.years(7);
        due.is("as it is now", later.eldest(1), 16);
        later.bury(0);
        later.years(1);
        due.is("not the DEAD", later.eldest(0), 1);
        due.is("a year later", later.eldest(1), 17);
        AbsentLords last = Due.county(Faults.many(6, "person p# 1;") + "person z 2;");
        due.is("the last one", last.eldest(0), 6);
        AbsentLords none = Due.county("person a 0;");
        due.is("age 0", none.eldest(1), 0);
        due.is("who is 0", none.eldest(0), 0);
    }

    private void given(String when, AbsentLords x, int... lords) {
        int many = 0;
        for (int house = 0; house < lords.length; house++) {
            many += lords[house] >= 0 ? 1 : 0;
            due.is(when + ": HOUSE " + house, x.lords(house), lords[house]);
        }
        due.is(when + ": how many", x.lords(NONE), many);
    }

    private void lordsMost() {
        due.about("LORDS: the most HOUSES that can be given one PERSON each, AWAY, with a RIGHT in it, nobody two");
        String rights = Faults.many(5, "right pa h#;") + "right pb ha; right pc ha;";
        given("no RIGHTS", Due.county(HOUSES + PEOPLE + ALL_AWAY), -2, -2, -2, -2, -2);
        given("all HOME", Due.county(HOUSES + PEOPLE + rights), -2, -2, -2, -2, -2);
        given("a is not given two", Due.county(HOUSES + PEOPLE + rights + ALL_AWAY), 1, 0, -2, -2, -2);
        given("all five", Due.county(HOUSES + PEOPLE + ALL_AWAY + "right pc ha; right pd hb; right pe hc; right pf hd; right pg he;"),
                2, 3, 4, 5, 6);
        given("no PEOPLE", Due.county(HOUSES), -2, -2, -2, -2, -2);
        AbsentLords x = Due.county(HOUSES + PEOPLE + ALL_AWAY + "right pa ha; right pa hb;");
        x.bury(0);
        given("DEAD", x, -2, -2, -2, -2, -2);
        due.is("no HOUSES", new AbsentLords().lords(NONE), 0);
        // Each must leave the one that it would have first to the next.
        given("a chain", Due.county(HOUSES + PEOPLE + ALL_AWAY + "right pa ha; right pb ha; right pb hb; right pc hb; right pc hc;"
                + "right pd hc; right pd hd; right pe hd; right pa he;"), 1, 2, 3, 4, 0);
    }

    private void lordsAlike() {
        due.about("LORDS: who, of alike ones the lowest PERSON for the first HOUSE, nobody behind all, then for the next one");
        given("the lowest", Due.county(HOUSES + PEOPLE + ALL_AWAY + "right pg ha; right pf ha; right pf hb; right pg hb;"),
                5, 6, -2, -2, -2);
        given("nobody behind all", Due.county(HOUSES + PEOPLE + ALL_AWAY + "right pg ha; right pg hb; right pg he;"),
                6, -2, -2, -2, -2);
        given("then for the next one", Due.county(HOUSES + PEOPLE + ALL_AWAY + "right pc ha; right pb hb; right pa hb; right pd hb;"),
                2, 0, -2, -2, -2);
        given("the first HOUSE has nobody", Due.county(HOUSES + PEOPLE + ALL_AWAY + "right pb hb; right pb hc; right pa hc;"),
                -2, 1, 0, -2, -2);
        // Two for three HOUSES: the first two have them, though others could.
        given("two for three", Due.county(HOUSES + PEOPLE + ALL_AWAY + "right pa hc; right pa ha; right pb hb; right pb ha; right pb hc; right pa hb;"),
                0, 1, -2, -2, -2);
    }

    private void noLords() {
        due.about("Promise 25: how many (i NONE), else who has the i-th HOUSE; NONE: no such HOUSE.");
        AbsentLords x = Busy.county();
        due.is("how many", x.lords(-1), 2);
        int[] want = {0, 2, -2, -2, -2};
        for (int house = 0; house < 5; house++) {
            due.is("HOUSE " + house, x.lords(house), want[house]);
        }
        for (int house : Edges.NO_HOUSE) {
            if (house != NONE) {
                due.is("lords(" + house + ")", x.lords(house), NONE);
            }
        }
        due.is("no HOUSES", new AbsentLords().lords(0), NONE);
    }

    private void bound() {
        due.about("BOUND of a PERSON: .. has, with them, with one bound to them, a RIGHT in one HOUSE (all alive; themselves, too)");
        AbsentLords x = Due.county(HOUSES + PEOPLE + "right pg ha; right pf ha; right pf hb; right pe hb; right pe hc; right pd hc;"
                + "right pd hd; right pc hd; right pc he; right pb he;");
        for (int person = 1; person < 7; person++) {
            due.is("of " + person + ", all but a", x.bound(person), 126);
        }
        due.is("themselves alone", x.bound(0), 1);
        x.send(4);
        due.is("AWAY, too", x.bound(1), 126);
        x.bury(3);
        due.is("not by the DEAD", x.bound(1), 2 + 4);
        due.is("the other side", x.bound(6), 64 + 32 + 16);
        due.is("no HOUSES", Due.county(PEOPLE).bound(6), 64);
        due.is("a HOUSE alone", Due.county(HOUSES + PEOPLE + "right pg he;").bound(6), 64);
        due.is("all of one HOUSE", Due.county(HOUSES + PEOPLE + Faults.many(7, "right p# he;")).bound(0), 127);
    }

    private void notBound() {
        due.about("Promise 26: NONE: DEAD, no such PERSON.");
        AbsentLords x = Busy.county();
        due.is("DEAD", x.bound(Busy.DEAD), NONE);
        due.is("HOME", x.bound(6), 64 + 32);
        due.is("AWAY, by d to c", x.bound(0), 1 + 2 + 4 + 8);
        for (int person : Edges.NO_PERSON) {
            due.is("bound(" + person + ")", x.bound(person), NONE);
        }
        due.is("no PEOPLE", new AbsentLords().bound(0), NONE);
    }

    private void idle() {
        due.about("Promise 27: IDLE (bits): HOUSES without LANDLORD");
        due.is("no HOUSES", new AbsentLords().idle(), 0);
        due.is("no PEOPLE", Due.county(HOUSES).idle(), 31);
        AbsentLords x = Due.county(HOUSES + PEOPLE + Faults.many(5, "right pg h#;"));
        due.is("all", x.idle(), 31);
        x.send(6);
        due.is("none", x.idle(), 0);
        x.give(6, 4, false);
        due.is("the last one", x.idle(), 16);
        x.bury(6);
        due.is("all again", x.idle(), 31);
        due.is("of a busy one", Busy.county().idle(), 4 + 8 + 16);
        due.is("the first PERSON's", Due.county(HOUSES + PEOPLE + "right pa ha; away pa 0;").idle(), 30);
    }

    private void share() {
        due.about("SHARE of a PERSON: how many of all RIGHTS in HOUSES are theirs, by 1,000, rounded down (no RIGHTS: 0)");
        due.is("no RIGHTS", Due.county(HOUSES + PEOPLE).share(6), 0);
        due.is("no HOUSES", Due.county(PEOPLE).share(0), 0);
        due.is("all", Due.county(HOUSES + PEOPLE + "right pg he;").share(6), 1000);
        due.is("none of some", Due.county(HOUSES + PEOPLE + "right pg he;").share(0), 0);
        due.is("1 of 3", Due.county(HOUSES + PEOPLE + "right pg he; right pa ha; right pb hb;").share(6), 333);
        due.is("2 of 3", Due.county(HOUSES + PEOPLE + "right pg he; right pg ha; right pb hb;").share(6), 666);
        due.is("1 of 2", Due.county(HOUSES + PEOPLE + "right pg he; right pb hb;").share(6), 500);
        due.is("1 of 7", Due.county(HOUSES + PEOPLE + Faults.many(7, "right p# he;")).share(6), 142);
        AbsentLords x = Due.county(HOUSES + PEOPLE + "right pg he; right pb hb;");
        x.bury(6);
        due.is("of one DEAD", x.share(6), 500);
        x.give(1, 1, false);
        due.is("all of one DEAD", x.share(6), 1000);
        x.give(6, 4, false);
        due.is("none left", x.share(6), 0);
    }

    private void noShare() {
        due.about("Promise 28: NONE: no such PERSON.");
        for (int person : Edges.NO_PERSON) {
            due.is("share(" + person + ")", Busy.county().share(person), NONE);
        }
        due.is("no PEOPLE", new AbsentLords().share(0), NONE);
        due.is("HOUSES alone", Due.county(HOUSES).share(0), NONE);
    }

    private void counts(AbsentLords x, int... want) {
        for (int what = 0; what <= 16; what++) {
            due.is("count(" + what + ")", x.count(what), want[what]);
        }
    }

    private void countEmpty() {
        due.about("Promise 47: of nothing");
        counts(new AbsentLords(), 0, 0, 0, 0, 0, 0, 0, 0, 0, 0, 0, 0, 0, 0, 0, 0, 0);
        counts(Due.county(HOUSES), 5, 0, 0, 0, 0, 0, 0, 0, 0, 0, 0, 0, 0, 5, 0, 0, 0);
        counts(Due.county(PEOPLE), 0, 7, 0, 127, 0, 0, 0, 0, 0, 0, 0, 0, 0, 0, 0, 0, 127);
    }

    private void countFull() {
        due.about("Promise 47: of all that there can be");
        AbsentLords x = Due.county(Faults.many(5, "house h# 99;") + PEOPLE + Faults.many(7, "right p# ha;")
                + "right pg hb; right pg hc; right pg hd; right pg he; right pb hb; right pc hc; right pd hd; right pe he;" + Faults.many(7, "away p# 99;"));
        counts(x, 5, 7, 0, 0, 127, 0, 1 + 2 + 4 + 8 + 16, 0, 0, 0, 0, 0, 15, 495, 693, 495, 0);
        x.years(40);
        for (int slot = 0; slot < 3; slot++) {
            x.hold(slot);
        }
        for (int i = 0; i < 20; i++) {
            x.tell(0, 6);
        }
        for (int i = 0; i < 100; i++) {
            x.feed(0, 0, 0, 0, 0);
        }
        counts(x, 5, 7, 40, 0, 127, 0, 31, 495 * 40, 2000, 1, 20, 3, 15, 495, 693 + 280, 495, 0);
        for (int person = 0; person < 7; person++) {
            x.bury(person);
        }
        counts(x, 5, 7, 40, 0, 0, 127, 0, 495 * 40, 2000, 8, 20, 3, 15, 495, 0, 0, 0);
    }

    private void countOthers() {
        due.about("Promise 47: NONE for others.");
        for (int what : new int[] {-1, -2, 17, 18, 32, Integer.MAX_VALUE, Integer.MIN_VALUE}) {
            due.is("count(" + what + ")", Busy.county().count(what), NONE);
            due.is("count(" + what + ") of a new object", new AbsentLords().count(what), NONE);
        }
    }
}
