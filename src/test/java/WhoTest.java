/** Promises 21 to 28: fill, richest, eldest, agents, lords, bound, idle, share. */
public final class WhoTest {
    private static final int NONE = AbsentLords.NONE;
    private static final String COUNTY = "house h 1; house k 1; house l 1; house m 1; house n 1; person a 1; person b 1;"
            + "person c 1; person d 1; right a h; right b h; right b k; right c k; right c l; right d m;";

    private final Due due = new Due();

    public static void main(String[] args) {
        WhoTest test = new WhoTest();
        test.fillAndAgents();
        test.leastBits();
        test.richest();
        test.eldest();
        test.lords();
        test.lordsOneByOne();
        test.bound();
        test.idle();
        test.share();
        test.due.end();
    }

    private void both(String when, AbsentLords x, int fill, int agents) {
        due.is(when + ": fill, many", x.fill(0), Integer.bitCount(fill));
        due.is(when + ": fill, who", x.fill(1), fill);
        due.is(when + ": agents, many", x.agents(0), Integer.bitCount(agents));
        due.is(when + ": agents, who", x.agents(1), agents);
        for (int what : new int[] {-1, 2, Integer.MAX_VALUE, Integer.MIN_VALUE}) {
            due.is("fill what " + what, x.fill(what), NONE);
            due.is("agents what " + what, x.agents(what), NONE);
        }
    }

    private void fillAndAgents() {
        both("no HOUSES", new AbsentLords(), 0, 0);
        both("no RIGHTS", Due.county("house h 1; person a 1;"), 0, 0);
        AbsentLords x = Due.county(COUNTY);
        both("at first", x, 13, 13);
        x.send(1);
        both("b AWAY", x, 12, 13);
        x.send(2);
        both("c AWAY", x, 8, 13);
        x.bury(3);
        both("d DEAD", x, 0, 5);
        x.bury(2);
        both("c DEAD", x, 0, 2);
        x.bury(1);
        both("b DEAD", x, 1, 1);
        x.bury(0);
        both("all DEAD", x, 0, 0);
    }

    private void leastBits() {
        // One of five for all HOUSES is fewer than the first two, of lesser bits.
        both("one for all", Due.county("house h 1; house k 1; person a 1; person b 1; person c 1; right a h; right b k;"
                + "right c h; right c k;"), 4, 4);
        // {b, c} and {a, d} are as many: the bits of the first are less.
        both("two of four", Due.county("house h 1; house k 1; house l 1; house m 1; person a 1; person b 1; person c 1;"
                + "person d 1; right a h; right a k; right d l; right d m; right b h; right b l; right c k; right c m;"), 6, 6);
    }

    private void richest() {
        due.is("no PEOPLE", new AbsentLords().richest(0), -2);
        due.is("no PEOPLE", new AbsentLords().richest(1), -2);
        due.is("no PEOPLE, what 2", new AbsentLords().richest(2), NONE);
        AbsentLords x = Due.county("house h 5; house k 7; house l 7; person a 1; person b 1; person c 1; right a h;"
                + "right b k; right c l; away a 1; away b 1; away c 1;");
        due.is("alike ones", x.richest(0), 0);
        due.is("nothing", x.richest(1), 0);
        x.years(1);
        due.is("of alike ones the first", x.richest(0), 1);
        due.is("how much", x.richest(1), 7);
        x.bury(1);
        due.is("DEAD, too", x.richest(0), 1);
        x.years(1);
        due.is("c then", x.richest(0), 2);
        due.is("how much then", x.richest(1), 14);
        due.is("what -1", x.richest(-1), NONE);
        due.is("what 2", x.richest(2), NONE);
    }

    private void eldest() {
        due.is("nobody", new AbsentLords().eldest(0), -2);
        due.is("nobody", new AbsentLords().eldest(1), -2);
        due.is("nobody, what 2", new AbsentLords().eldest(2), NONE);
        AbsentLords x = Due.county("person a 0; person b 20; person c 20; away c 1;");
        due.is("of alike ones the first", x.eldest(0), 1);
        due.is("the age", x.eldest(1), 20);
        x.years(3);
        due.is("the age then", x.eldest(1), 23);
        x.bury(1);
        due.is("alive", x.eldest(0), 2);
        x.years(1);
        due.is("alive, the age", x.eldest(1), 24);
        x.bury(2);
        due.is("the last one", x.eldest(0), 0);
        due.is("the last one, the age", x.eldest(1), 4);
        x.bury(0);
        due.is("nobody alive", x.eldest(0), -2);
        due.is("nobody alive, the age", x.eldest(1), -2);
        due.is("what -1", x.eldest(-1), NONE);
        due.is("what 2", x.eldest(2), NONE);
    }

    private void given(String when, AbsentLords x, int many, int... lords) {
        due.is(when + ": how many", x.lords(NONE), many);
        for (int i = 0; i < lords.length; i++) {
            due.is(when + ": HOUSE " + i, x.lords(i), lords[i]);
        }
        for (int i : new int[] {-2, lords.length, 32, Integer.MAX_VALUE, Integer.MIN_VALUE}) {
            due.is(when + ": no HOUSE " + i, x.lords(i), NONE);
        }
    }

    private void lords() {
        given("no HOUSES", new AbsentLords(), 0);
        AbsentLords x = Due.county("house h 1; house k 1; house l 1; person a 1; person b 1; person c 1; right a h;"
                + "right a k; right b h; right c l; away a 1; away b 2;");
        given("a must have k", x, 2, 1, 0, -2);
        x.send(2);
        given("c AWAY", x, 3, 1, 0, 2);
        x.bury(1);
        given("b DEAD", x, 2, 0, -2, 2);
        x.call(0);
        given("a HOME", x, 1, -2, -2, 2);
        given("the lowest first", Due.county("house h 1; house k 1; person a 1; person b 1; right b h; right b k;"
                + "right a k; right a h; away b 9; away a 1;"), 2, 0, 1);
        given("the first HOUSE first", Due.county("house h 1; house k 1; person a 1; right a k; right a h; away a 1;"),
                1, 0, -2);
    }

    /** A chain in which each HOUSE but the last must leave its lowest one to the next. */
    private void lordsOneByOne() {
        AbsentLords x = Due.county("house h 1; house k 1; house l 1; house m 1; house n 1; person a 1; person b 1;"
                + "person c 1; person d 1; person e 1; right a h; right b h; right b k; right c k; right c l; right d l;"
                + "right d m; right e m; right a n; away a 1; away b 1; away c 1; away d 1; away e 1;");
        given("all five", x, 5, 1, 2, 3, 4, 0);
        x.call(4);
        given("without e", x, 4, 0, 1, 2, 3, -2);
    }

    private void bound() {
        due.is("nobody", new AbsentLords().bound(0), NONE);
        AbsentLords x = Due.county("house h 1; house k 1; house l 1; house m 1; person g 1; person f 1; person e 1;"
                + "person d 1; person c 1; person b 1; person z 1; right b h; right c h; right c k; right d k; right d l;"
                + "right e l; right f m; right g m;");
        due.is("b by c by d to e", x.bound(5), 32 + 16 + 8 + 4);
        due.is("e likewise", x.bound(2), 32 + 16 + 8 + 4);
        due.is("f and g", x.bound(0), 3);
        due.is("one without RIGHT", x.bound(6), 64);
        x.send(4);
        due.is("AWAY or HOME", x.bound(5), 60);
        x.bury(3);
        due.is("not by the DEAD", x.bound(5), 48);
        due.is("the other side", x.bound(2), 4);
        due.is("DEAD", x.bound(3), NONE);
        for (int nobody : new int[] {-1, 7, 32, Integer.MAX_VALUE, Integer.MIN_VALUE}) {
            due.is("bound " + nobody, x.bound(nobody), NONE);
        }
    }

    private void idle() {
        due.is("no HOUSES", new AbsentLords().idle(), 0);
        AbsentLords x = Due.county(COUNTY);
        due.is("all", x.idle(), 31);
        x.send(1);
        due.is("but h and k", x.idle(), 28);
        x.send(3);
        due.is("but m", x.idle(), 20);
        x.bury(1);
        due.is("b DEAD", x.idle(), 23);
        x.send(0);
        due.is("a AWAY", x.idle(), 22);
    }

    private void share() {
        due.is("nobody", new AbsentLords().share(0), NONE);
        due.is("no RIGHTS", Due.county("house h 1; person a 1;").share(0), 0);
        AbsentLords x = Due.county(COUNTY);
        due.is("1 of 6", x.share(0), 166);
        due.is("2 of 6", x.share(1), 333);
        x.give(1, 2, true);
        due.is("3 of 7", x.share(1), 428);
        x.bury(1);
        due.is("of the DEAD", x.share(1), 428);
        for (int nobody : new int[] {-1, 4, 32, Integer.MAX_VALUE, Integer.MIN_VALUE}) {
            due.is("share " + nobody, x.share(nobody), NONE);
        }
        due.is("all", Due.county("house h 1; person a 1; right a h;").share(0), 1000);
    }
}
