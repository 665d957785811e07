/** Promises 14 to 20 and 29 to 32: what would be, without and with chances. */
public final class WouldBeTest {
    private static final int NONE = AbsentLords.NONE;
    private static final String COUNTY = "house h 10; house k 20; house l 30; person a 30; person b 20; person c 40;"
            + "person d 50; right a h; right b h; right c h; right c k; right d k; away a 5; away b 3;"
            + "goes = 100; comes = 100; dies = 100;";

    private final Due due = new Due();

    public static void main(String[] args) {
        WouldBeTest test = new WouldBeTest();
        test.heirAndRace();
        test.gain();
        test.best();
        test.loss();
        test.duel();
        test.rest();
        test.inYears();
        test.year();
        test.nothingHappens();
        test.due.end();
    }

    private void heirAndRace() {
        AbsentLords x = Due.county(COUNTY);
        due.is("heir of h", x.heir(0), 1);
        due.is("race of h", x.race(0), 2);
        due.is("heir of k", x.heir(1), -2);
        due.is("race of k", x.race(1), -2);
        x.send(3);
        due.is("heir of k, d alone", x.heir(1), -2);
        due.is("race of k, d alone", x.race(1), -2);
        x.send(2);
        due.is("LANDLORD of k, of alike ones the first", x.house(1, 1), 2);
        due.is("heir of k", x.heir(1), 3);
        due.is("race of k, alike", x.race(1), 0);
        x.bury(1);
        due.is("heir of h, b DEAD", x.heir(0), 2);
        due.is("race of h, b DEAD", x.race(0), 5);
        x.undo();
        x.call(0);
        x.send(0);
        due.is("heir of h, a back", x.heir(0), 0);
        due.is("race of h, a back", x.race(0), 3);
        for (int house : new int[] {-1, 3, 5, 32, Integer.MAX_VALUE, Integer.MIN_VALUE}) {
            due.is("heir " + house, x.heir(house), NONE);
            due.is("race " + house, x.race(house), NONE);
        }
    }

    private void gain() {
        AbsentLords x = Due.county(COUNTY);
        for (int n = 0; n <= 40; n++) {
            due.is("gain of a", x.gain(0, n), 10 * n);
            due.is("gain of b", x.gain(1, n), 0);
        }
        due.is("gain of c", x.gain(2, 40), 0);
        due.is("n -1", x.gain(0, -1), NONE);
        due.is("n 41", x.gain(0, 41), NONE);
        due.is("nobody", x.gain(4, 1), NONE);
        due.is("nobody", x.gain(-1, 1), NONE);
        x.bury(0);
        due.is("of the DEAD", x.gain(0, 5), 0);
        due.is("of the next", x.gain(1, 5), 50);
        AbsentLords y = Due.county("house h 9; person a 1; right a h; away a 2; rents = gone + got + year * 2 + age;");
        // Years 0, 1, 2: 2 + 0 + 0 + 1 = 3, 3 + 3 + 2 + 2 = 10, 4 + 13 + 4 + 3 = 24.
        due.is("by a LAW that sees the years", y.gain(0, 3), 37);
        y.years(3);
        due.is("got so far", y.person(0, 3), 37);
        due.is("how much more", y.gain(0, 1), 5 + 37 + 6 + 4);
    }

    private void best() {
        AbsentLords x = Due.county(COUNTY);
        due.is("at once", x.best(2, 3, 0), 0);
        due.is("how much", x.best(2, 3, 1), 60);
        due.is("for 40", x.best(2, 40, 1), 800);
        due.is("for 1", x.best(2, 1, 0), 0);
        due.is("for 1, how much", x.best(2, 1, 1), 20);
        due.is("not HOME", x.best(0, 3, 0), NONE);
        due.is("n 0", x.best(2, 0, 0), NONE);
        due.is("n 41", x.best(2, 41, 0), NONE);
        due.is("what 2", x.best(2, 3, 2), NONE);
        due.is("what -1", x.best(2, 3, -1), NONE);
        due.is("nobody", x.best(4, 3, 0), NONE);
        x.bury(2);
        due.is("DEAD", x.best(2, 3, 0), NONE);
        String county = "house h 10; person a 1; person b 1; right a h; right b h;";
        AbsentLords y = Due.county(county + "rents = if year < 3 then 1 else 50 - gone * 20;");
        due.is("behind 3", y.best(0, 5, 0), 3);
        due.is("50 and 30", y.best(0, 5, 1), 80);
        due.is("n 4", y.best(0, 4, 0), 3);
        due.is("n 3, three times 1", y.best(0, 3, 1), 3);
        AbsentLords z = Due.county(county + "rents = if year < 2 then 0 else 20;");
        due.is("of alike ones the first", z.best(0, 3, 0), 0);
        due.is("how much, alike", z.best(0, 3, 1), 20);
        z.send(1);
        z.years(3);
        z.call(1);
        z.send(1);
        due.is("so far is not in it", z.best(0, 2, 1), 40);
        z.years(1);
        due.is("b is gone longer", z.best(0, 2, 1), 0);
    }

    private void loss() {
        AbsentLords x = Due.county(COUNTY);
        due.is("b would get it", x.loss(0, 4), 40);
        due.is("n 0", x.loss(0, 0), 0);
        due.is("n 40", x.loss(0, 40), 400);
        due.is("b has none", x.loss(1, 4), 0);
        x.call(0);
        x.send(0);
        due.is("a would get it", x.loss(1, 4), 40);
        x.undo();
        x.undo();
        due.is("HOME", x.loss(2, 4), -100000);
        due.is("n -1", x.loss(0, -1), -100000);
        due.is("n 41", x.loss(0, 41), -100000);
        due.is("nobody", x.loss(4, 4), -100000);
        due.is("nobody", x.loss(-1, 4), -100000);
        x.bury(0);
        due.is("DEAD", x.loss(0, 4), -100000);
        AbsentLords y = Due.county("house h 10; house k 20; person a 1; person b 1; right a h; right b k; away a 1;"
                + "away b 1; rents = rent - home * 3;");
        due.is("below 0", y.loss(0, 2), -6);
        y.years(2);
        due.is("below 0 then", y.loss(0, 2), -6);
    }

    private void duel() {
        AbsentLords x = Due.county(COUNTY);
        int[] first = {0, 20, 0, 20};
        int[] other = {0, 0, 20, 0};
        for (int choice = 0; choice < 4; choice++) {
            due.is("c of c and d, " + choice, x.duel(2, 3, 3, choice, 0), 3 * first[choice]);
            due.is("d of c and d, " + choice, x.duel(2, 3, 3, choice, 1), 3 * other[choice]);
        }
        int[] turned = {0, 20, 0, 0};
        int[] turnedOther = {0, 0, 20, 20};
        for (int choice = 0; choice < 4; choice++) {
            due.is("d of d and c, " + choice, x.duel(3, 2, 40, choice, 0), 40 * turned[choice]);
            due.is("c of d and c, " + choice, x.duel(3, 2, 40, choice, 1), 40 * turnedOther[choice]);
        }
        AbsentLords y = Due.county("house h 10; person a 1; person b 1; right a h; right b h; away a 1;");
        y.years(3);
        y.call(0);
        y.send(1);
        y.years(2);
        y.call(1);
        due.is("a, so far is not in it", y.duel(0, 1, 1, 1, 0), 10);
        due.is("b, so far is not in it", y.duel(0, 1, 1, 1, 1), 0);
        due.is("b alone", y.duel(0, 1, 1, 2, 1), 10);
        due.is("rest then", y.rest(0, 1, 1), 10);
        due.is("n 0", x.duel(2, 3, 0, 0, 0), NONE);
        due.is("n 41", x.duel(2, 3, 41, 0, 0), NONE);
        due.is("choice -1", x.duel(2, 3, 1, -1, 0), NONE);
        due.is("choice 4", x.duel(2, 3, 1, 4, 0), NONE);
        due.is("what 2", x.duel(2, 3, 1, 0, 2), NONE);
        due.is("what -1", x.duel(2, 3, 1, 0, -1), NONE);
        due.is("one and the same", x.duel(2, 2, 1, 0, 0), NONE);
        due.is("first not HOME", x.duel(0, 3, 1, 0, 0), NONE);
        due.is("other not HOME", x.duel(3, 0, 1, 0, 0), NONE);
        due.is("nobody", x.duel(4, 3, 1, 0, 0), NONE);
        due.is("nobody", x.duel(3, -1, 1, 0, 0), NONE);
    }

    private void rest() {
        AbsentLords x = Due.county(COUNTY);
        due.is("c and d", x.rest(2, 3, 3), 10);
        due.is("d and c", x.rest(3, 2, 3), 12);
        due.is("n 0", x.rest(2, 3, 0), NONE);
        due.is("n 41", x.rest(2, 3, 41), NONE);
        due.is("one and the same", x.rest(2, 2, 3), NONE);
        due.is("not HOME", x.rest(0, 3, 3), NONE);
        due.is("not HOME", x.rest(3, 1, 3), NONE);
        due.is("nobody", x.rest(3, 4, 3), NONE);
        due.is("nobody", x.rest(Integer.MIN_VALUE, 3, 3), NONE);
        AbsentLords y = Due.county("house h 10; house k 20; person a 1; person b 1; right a h; right b k;");
        due.is("both go", y.rest(0, 1, 1), 8);
        AbsentLords z = Due.county("house h 10; house k 20; person a 1; person b 1;");
        due.is("nothing to get", z.rest(0, 1, 1), 15);
        // Who goes alone gets 9, who goes with the other nothing.
        AbsentLords w = Due.county("house h 9; house k 9; person a 1; person b 1; right a h; right b k;"
                + "rents = rent * home;");
        due.is("one goes, or both", w.rest(0, 1, 5), 2 + 4 + 8);
    }

    private void inYears() {
        AbsentLords x = Due.county("house h 5; person a 10; person b 10; right a h; right b h; away b 2; goes = 100;"
                + "comes = 100; dies = if age < 12 then 0 else 100;");
        int[] lord = {1, 0, 1, -2, -2};
        int[] home = {1, 2, 1, 0, 0};
        int[] away = {2, 1, 2, 0, 0};
        int[] dead = {0, 0, 0, 3, 3};
        int[] first = {0, 0, 5, 5, 5};
        int[] second = {0, 5, 5, 10, 10};
        for (int n = 0; n < 5; n++) {
            due.is("LANDLORD in " + n, x.lordIn(0, n), lord[n]);
            due.is("HOME in " + n, x.then(n, 0), home[n]);
            due.is("AWAY in " + n, x.then(n, 1), away[n]);
            due.is("DEAD in " + n, x.then(n, 2), dead[n]);
            due.is("a got in " + n, x.gotIn(0, n), first[n]);
            due.is("b got in " + n, x.gotIn(1, n), second[n]);
        }
        due.is("in 40", x.then(40, 2), 3);
        for (int n : new int[] {-1, 41, Integer.MAX_VALUE, Integer.MIN_VALUE}) {
            due.is("lordIn " + n, x.lordIn(0, n), NONE);
            due.is("then " + n, x.then(n, 0), NONE);
            due.is("gotIn " + n, x.gotIn(0, n), NONE);
        }
        due.is("no such HOUSE", x.lordIn(1, 0), NONE);
        due.is("no such HOUSE", x.lordIn(-1, 0), NONE);
        due.is("no such what", x.then(0, 3), NONE);
        due.is("no such what", x.then(0, -1), NONE);
        due.is("no such PERSON", x.gotIn(2, 0), NONE);
        due.is("no such PERSON", x.gotIn(-1, 0), NONE);
        x.years(1);
        due.is("so far and by then", x.gotIn(1, 2), 10);
        due.is("LANDLORD a year on", x.lordIn(0, 1), 1);
    }

    /** SEEDS 0 to 3 have the lots 18, 30, 86 and 85 for a to go in year 0. */
    private void year() {
        String county = "house h 5; house k 5; person a 10; person b 10; right a h; right a k;";
        AbsentLords x = Due.county(county + "goes = 31;");
        int[] times = {1, 2, 2, 2};
        for (int s = 1; s <= 4; s++) {
            due.is("by " + s, x.year(0, 1, s), times[s - 1]);
            due.is("b by " + s, x.year(1, 1, s), 0);
            due.is("now by " + s, x.year(0, 0, s), 0);
        }
        AbsentLords y = Due.county(county + "goes = 31; seed 1;");
        due.is("from 1 by 2", y.year(0, 1, 2), 1);
        AbsentLords z = Due.county(county + "goes = 86; seed 2;");
        due.is("from 2 by 2", z.year(0, 1, 2), 1);
        // The lots of SEEDS 9999 and 10000 are 46 and 64.
        AbsentLords w = Due.county(county + "goes = 60; seed 9999;");
        due.is("from 9999 by 2", w.year(0, 1, 2), 1);
        AbsentLords v = Due.county(county + "goes = 65; seed 9999;");
        due.is("from 9999 by 2, more", v.year(0, 1, 2), 2);
        v.send(0);
        due.is("all of 20", v.year(0, 40, 20), 20);
        due.is("all of 20 now", v.year(0, 0, 20), 20);
        for (int s : new int[] {-1, 0, 21, Integer.MAX_VALUE, Integer.MIN_VALUE}) {
            due.is("s " + s, v.year(0, 1, s), NONE);
        }
        due.is("n -1", v.year(0, -1, 1), NONE);
        due.is("n 41", v.year(0, 41, 1), NONE);
        due.is("nobody", v.year(2, 1, 1), NONE);
        due.is("nobody", v.year(-1, 1, 1), NONE);
    }

    private void nothingHappens() {
        AbsentLords x = Due.county(COUNTY);
        x.hold(1);
        x.heir(0);
        x.race(0);
        x.gain(0, 9);
        x.best(2, 9, 0);
        x.loss(0, 9);
        x.duel(2, 3, 9, 3, 0);
        x.rest(2, 3, 9);
        x.lordIn(0, 9);
        x.then(9, 0);
        x.gotIn(0, 9);
        x.year(0, 9, 9);
        due.is("year", x.count(2), 0);
        due.is("HOME", x.count(3), 12);
        due.is("AWAY", x.count(4), 3);
        due.is("got", x.count(7), 0);
        due.is("gone", x.count(14), 8);
        due.is("age", x.person(0, 0), 30);
        due.is("things done", x.count(9), 0);
    }
}
