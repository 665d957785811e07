/** Each sentence of part II that names an edge: LANDLORDS, LAWS, LOTS, A YEAR. */
public final class EdgeLawTest {
    private static final int NOBODY = -2;
    private static final String[] CHANCES = {"goes", "comes", "dies"};
    /** The least of all ints, as an E. */
    private static final String LEAST = "(256 * 256 * 256 * 128)";

    private final Due due = new Due();

    public static void main(String[] args) {
        EdgeLawTest test = new EdgeLawTest();
        test.nobodyIsLandlord();
        test.longestGone();
        test.alikeLandlords();
        test.firstIf();
        test.lessThan();
        test.wrapped();
        test.roundedTowardsZero();
        test.leftToRight();
        test.dividedByNothing();
        test.notLookedAt();
        test.ages();
        test.gone();
        test.gotAndYear();
        test.numbersOfAll();
        test.rentOfLaws();
        test.held();
        test.heldRents();
        test.deepestLaw();
        test.longestLaw();
        test.lots();
        test.leastAndMostLots();
        test.yearAsItBegan();
        test.deathAheadOfGoing();
        test.whoWent();
        test.theLastYear();
        test.due.end();
    }

    private void nobodyIsLandlord() {
        due.about("The LANDLORD of a HOUSE: .. nobody, if there is none.");
        String county = "house h 9; person a 1; person b 1;";
        due.is("no RIGHTS", Due.county(county + "away a 9;").house(0, 1), NOBODY);
        due.is("a RIGHT, HOME", Due.county(county + "right a h; away b 9;").house(0, 1), NOBODY);
        AbsentLords x = Due.county(county + "right a h; away a 9;");
        due.is("AWAY", x.house(0, 1), 0);
        x.bury(0);
        due.is("DEAD", x.house(0, 1), NOBODY);
        due.is("RENTS of nobody", x.house(0, 3), 0);
        due.is("no PEOPLE", Due.county("house h 9;").house(0, 1), NOBODY);
        due.is("LANDLORDS", Due.county("house h 9;").count(6), 0);
    }

    private void longestGone() {
        due.about("of those who are AWAY and have a RIGHT in it, who is gone the longest");
        AbsentLords x = Due.county("house h 9; house k 9; person a 1; person b 1; person c 1; right a h; right b h;"
                + "right c k; away a 0; away b 1; away c 99;");
        due.is("1 is longer than 0", x.house(0, 1), 1);
        due.is("not c, who has no RIGHT in it", x.house(1, 1), 2);
        x.give(2, 0, true);
        due.is("99", x.house(0, 1), 2);
        x.give(2, 0, false);
        x.call(1);
        due.is("gone 0 years, alone", x.house(0, 1), 0);
        AbsentLords home = Due.county("house h 9; person a 1; person b 1; right a h; right b h; away b 0;");
        due.is("gone 0 years, not the first, who is HOME", home.house(0, 1), 1);
        AbsentLords all = Due.county(Faults.many(5, "house h# 1;") + Faults.many(7, "person p# 1;")
                + "right pg he; right pf he; away pg 7; away pf 6;");
        due.is("the last PERSON of the last HOUSE", all.house(4, 1), 6);
        due.is("HOUSES of the last PERSON", all.person(6, 5), 16);
    }

    private void alikeLandlords() {
        due.about("of alike ones the first");
        AbsentLords x = Due.county("house h 9; person a 1; person b 1; person c 1; right c h; right b h; right a h;"
                + "away c 5; away b 5;");
        due.is("b ahead of c", x.house(0, 1), 1);
        x.send(0);
        due.is("a is gone less", x.house(0, 1), 1);
        AbsentLords y = Due.county("house h 9; person a 1; person b 1; right b h; right a h; away b 0; away a 0;");
        due.is("gone 0 years both", y.house(0, 1), 0);
    }

    private void rents(String law, int want) {
        AbsentLords x = Due.county("house h 7; person a 10; right a h; away a 3; rents = " + law + ";");
        due.is("rents = " + law, x.house(0, 3), want);
    }

    private void firstIf() {
        due.about("LAWS: the E of the first if that holds (one less than the other), else the last one");
        String no = "if 1 < 1 then 10 else ";
        rents("5", 5);
        rents("if 0 < 1 then 6 else " + no + no + no + "9", 6);
        rents(no + "if 0 < 1 then 6 else " + no + no + "9", 6);
        rents(no + no + "if 0 < 1 then 6 else " + no + "9", 6);
        rents(no + no + no + "if 0 < 1 then 6 else 9", 6);
        rents(no + no + no + no + "9", 9);
        rents("if 0 < 1 then 1 else if 0 < 1 then 2 else if 0 < 1 then 3 else if 0 < 1 then 4 else 5", 1);
    }

    private void lessThan() {
        due.about("(one less than the other)");
        rents("if 6 < 7 then 1 else 2", 1);
        rents("if 7 < 7 then 1 else 2", 2);
        rents("if 8 < 7 then 1 else 2", 2);
        rents("if 0 - 1 < 0 then 1 else 2", 1);
        rents("if 0 < 0 - 1 then 1 else 2", 2);
        rents("if " + LEAST + " < " + LEAST + " - 1 then 1 else 2", 1);
        rents("if " + LEAST + " - 1 < " + LEAST + " then 1 else 2", 2);
        rents("if " + LEAST + " < " + LEAST + " then 1 else 2", 2);
        rents("if " + LEAST + " < 0 then 1 else 2", 1);
        rents("if 0 < " + LEAST + " - 1 then 1 else 2", 1);
    }

    private void wrapped() {
        due.about("ints of 32 bits that wrap");
        rents("256 * 256 * 256 * 256 + 7", 7);
        rents("if 256 * 256 * 256 * 127 + 256 * 256 * 256 < 0 then 1 else 2", 1);
        rents("if 256 * 256 * 256 * 127 + (256 * 256 * 256 - 1) < 0 then 1 else 2", 2);
        rents("if " + LEAST + " - 1 < 0 then 1 else 2", 2);
        rents("if 0 - " + LEAST + " < 0 then 1 else 2", 1);
        rents("if " + LEAST + " * (0 - 1) < 0 then 1 else 2", 1);
        rents("(" + LEAST + " + " + LEAST + ") + 8", 8);
        rents("9999 * 9999 * 9999 - 9999 * 9999 * 9999 + 3", 3);
        rents("if " + LEAST + " / (0 - 1) < 0 then 1 else 2", 1);
        rents("(" + LEAST + " - 1) / 9999 / 9999", 21);
    }

    private void roundedTowardsZero() {
        due.about("/ rounded towards 0");
        rents("7 / 2", 3);
        rents("10 + (0 - 7) / 2", 7);
        rents("10 + 7 / (0 - 2)", 7);
        rents("(0 - 7) / (0 - 2)", 3);
        rents("10 + (0 - 1) / 2", 10);
        rents("10 + 1 / 2", 10);
        rents("10 + (0 - 2) / 2", 9);
        rents("8 / 2", 4);
        rents("0 / 9 + 4", 4);
    }

    private void leftToRight() {
        due.about("E: PART {('+' | '-') PART}. PART: UNIT {('*' | '/') UNIT}. UNIT: INT | VAR | '(' E ')'.");
        rents("10 - 3 - 2", 5);
        rents("10 - 3 + 2", 9);
        rents("10 + 3 - 2", 11);
        rents("80 / 4 / 2", 10);
        rents("80 / 4 * 2", 40);
        rents("7 * 3 / 2", 10);
        rents("2 + 3 * 4", 14);
        rents("3 * 4 + 2", 14);
        rents("20 - 8 / 2", 16);
        rents("(2 + 3) * 4", 20);
        rents("20 - (8 - 2)", 14);
        rents("80 / (4 / 2)", 40);
        rents("age - gone * rent / 2", 0);
        rents("(age - gone) * rent / 2", 24);
    }

    private void dividedByNothing() {
        due.about("a LAW in which something that is looked at is divided by 0 is 0");
        String[] laws = {"50 / 0", "0 / 0", "50 + 1 / 0", "50 + 0 * (1 / 0)", "50 + 0 / (3 - 3)", "50 / (1 / 2)", "(1 / 0) - (0 - 50)",
            "if 1 / 0 < 5 then 50 else 50", "if 5 < 1 / 0 then 50 else 50", "if 0 < 1 then 1 / 0 else 50",
            "if 1 < 0 then 50 else 1 / 0", "if 1 < 0 then 50 else if 1 / 0 < 5 then 50 else 50",
            "if 0 < 1 then 50 + (((((1 / 0))))) else 50"};
        for (String law : laws) {
            rents(law, 0);
            for (int i = 0; i < 3; i++) {
                due.is(CHANCES[i] + " = " + law, Due.county("person a 1;" + CHANCES[i] + " = " + law + ";").person(0, 6 + i), 0);
            }
        }
        // Divided by what comes to be 0: nobody is HOME, or not.
        AbsentLords x = Due.county("house h 7; person a 1; person b 1; right a h; away a 1; rents = 50 / home;");
        due.is("one HOME", x.house(0, 3), 50);
        x.send(1);
        due.is("nobody HOME", x.house(0, 3), 0);
        x.years(1);
        due.is("got of it", x.person(0, 3), 0);
        x.undo();
        x.undo();
        x.years(1);
        due.is("got with one HOME", x.person(0, 3), 50);
    }

    private void notLookedAt() {
        due.about("something that is looked at");
        rents("if 0 < 1 then 50 else 1 / 0", 50);
        rents("if 1 < 0 then 1 / 0 else 50", 50);
        rents("if 0 < 1 then 50 else if 1 / 0 < 1 then 1 else 2", 50);
        rents("if 0 < 1 then 50 else if 1 < 1 / 0 then 1 else 2", 50);
        rents("if 1 < 0 then 1 / 0 else if 1 < 0 then 1 / 0 else if 0 < 1 then 50 else 1 / 0", 50);
    }

    private void ages() {
        due.about("age (as it is now: AGE and the year; the DEAD: as they died)");
        AbsentLords x = Due.county("person a 0; person b 99; person c 5; away c 1; dies = if which < 2 then 0 else if age < 7 then 0 else 100;");
        due.is("AGE 0", x.person(0, 0), 0);
        due.is("AGE 99", x.person(1, 0), 99);
        x.years(40);
        due.is("0 and 40", x.person(0, 0), 40);
        due.is("99 and 40", x.person(1, 0), 139);
        due.is("died in the year they were 7", x.person(2, 0), 7);
        x.bury(1);
        x.years(40);
        due.is("buried at 139", x.person(1, 0), 139);
        due.is("alive", x.person(0, 0), 80);
        x.undo();
        x.undo();
        x.years(1);
        due.is("alive again", x.person(1, 0), 140);
        AbsentLords y = Due.county("person a 3;");
        y.bury(0);
        y.years(9);
        due.is("buried in year 0", y.person(0, 0), 3);
    }

    private void gone() {
        due.about("gone: for how many years they are AWAY (else 0)");
        AbsentLords x = Due.county("person a 1; away a 99; goes = 50 + gone; dies = 0; comes = 0;");
        due.is("at first", x.person(0, 2), 99);
        due.is("in a LAW, held", x.person(0, 6), 100);
        x.years(40);
        due.is("40 more", x.person(0, 2), 139);
        x.call(0);
        due.is("HOME", x.person(0, 2), 0);
        due.is("HOME in a LAW", x.person(0, 6), 50);
        x.undo();
        x.bury(0);
        due.is("DEAD", x.person(0, 2), 0);
        due.is("DEAD in a LAW", x.person(0, 6), 50);
        due.is("of all AWAY", x.count(14), 0);
        x.undo();
        due.is("undone", x.person(0, 2), 139);
        AbsentLords y = Due.county("person a 1; away a 9; comes = if year < 1 then 100 else 0;");
        y.years(1);
        due.is("came by chance", y.person(0, 2), 0);
        AbsentLords z = Due.county("person a 1; away a 9; dies = 100;");
        z.years(1);
        due.is("died by chance", z.person(0, 2), 0);
    }

    private void gotAndYear() {
        due.about("got: how much they got so far; year");
        AbsentLords x = Due.county("house h 2; person a 1; person b 1; right a h; away a 1; goes = got; comes = 0; dies = 0;");
        AbsentLords y = Due.county("person a 1; away a 1; goes = year;");
        for (int year = 0; year <= 51; year++) {
            due.is("got of the LANDLORD, held", x.person(0, 6), Math.min(2 * year, 100));
            due.is("got of another", x.person(1, 6), 0);
            due.is("year", y.person(0, 6), year);
            x.years(1);
            y.years(1);
        }
        x.call(0);
        due.is("got stays, HOME", x.person(0, 3), 104);
        x.bury(0);
        due.is("got stays, DEAD", x.person(0, 3), 104);
        due.is("got of one DEAD in a LAW", x.person(0, 6), 100);
        due.is("what all got", x.count(7), 104);
    }

    private void numbersOfAll() {
        due.about("rights: how many they have; lord: of how many HOUSES ..; which: their number; home: how many are HOME, of all");
        String county = Faults.many(5, "house h# 20;") + Faults.many(7, "person p# 1;")
                + "right pg ha; right pg hb; right pg hc; right pg hd; right pg he; right pa ha;";
        String[] vars = {"rights", "lord", "which", "home", "rent"};
        int[] home = {5, 0, 6, 7, 0};
        int[] away = {5, 5, 6, 6, 100};
        int[] first = {1, 0, 0, 6, 0};
        for (int i = 0; i < vars.length; i++) {
            AbsentLords x = Due.county(county + "goes = " + vars[i] + ";");
            due.is(vars[i] + ", all HOME", x.person(6, 6), home[i]);
            x.send(6);
            due.is(vars[i] + ", one AWAY", x.person(6, 6), away[i]);
            due.is(vars[i] + ", of the first", x.person(0, 6), first[i]);
        }
        AbsentLords x = Due.county(county + "goes = home;");
        for (int person = 0; person < 7; person++) {
            x.send(person);
            due.is("home", x.person(0, 6), 6 - person);
        }
        x.call(3);
        x.bury(4);
        due.is("home, the DEAD are not", x.person(4, 6), 1);
    }

    private void rentOfLaws() {
        due.about("rent: what the HOUSES of which they are LANDLORD have for RENT, added. RENTS ..: likewise, but rent: that HOUSE's RENT");
        AbsentLords x = Due.county("house h 0; house k 40; house l 30; person a 1; person b 1; right a h; right a k; right a l;"
                + "right b l; away a 2; away b 2; goes = rent; rents = rent + lord;");
        due.is("GOES of the LANDLORD", x.person(0, 6), 70);
        due.is("of one who has a RIGHT alone", x.person(1, 6), 0);
        due.is("RENTS of h", x.house(0, 3), 3);
        due.is("RENTS of k", x.house(1, 3), 43);
        due.is("RENTS of l", x.house(2, 3), 33);
        x.call(0);
        due.is("GOES of who was LANDLORD", x.person(0, 6), 0);
        due.is("GOES of the next", x.person(1, 6), 30);
        due.is("RENTS of l then", x.house(2, 3), 31);
    }

    private void held() {
        due.about("GOES, COMES, DIES, held to 0 .. 100");
        String[] laws = {LEAST, "0 - 9999", "0 - 1", "0", "1", "99", "100", "101", "9999", LEAST + " - 1"};
        int[] want = {0, 0, 0, 0, 1, 99, 100, 100, 100, 100};
        for (int i = 0; i < laws.length; i++) {
            for (int law = 0; law < 3; law++) {
                AbsentLords x = Due.county("person a 1;" + CHANCES[law] + " = " + laws[i] + ";");
                due.is(CHANCES[law] + " = " + laws[i], x.person(0, 6 + law), want[i]);
            }
        }
    }

    private void heldRents() {
        due.about("RENTS to 0 .. 99");
        String[] laws = {LEAST, "0 - 1", "0", "1", "98", "99", "100", "101", "9999", LEAST + " - 1"};
        int[] want = {0, 0, 0, 1, 98, 99, 99, 99, 99, 99};
        for (int i = 0; i < laws.length; i++) {
            AbsentLords x = Due.county("house h 7; house k 8; person a 10; right a h; right a k; away a 3; rents = " + laws[i] + ";");
            due.is("rents = " + laws[i], x.house(0, 3), want[i]);
            due.is("of all HOUSES", x.count(15), 2 * want[i]);
            due.is("gain", x.gain(0, 40), 80 * want[i]);
            x.years(1);
            due.is("got", x.person(0, 3), 2 * want[i]);
        }
    }

    private void deepestLaw() {
        due.about("six ( within one another, with all that can wait around them");
        String deep = "1+1*(1+1*(1+1*(1+1*(1+1*(1+1*(1+1*#))))))";
        rents(deep.replace("#", "5"), 12);
        rents("if " + deep.replace("#", "5") + " < " + deep.replace("#", "6") + " then " + deep.replace("#", "7") + " else 1", 14);
        rents("if " + deep.replace("#", "6") + " < " + deep.replace("#", "6") + " then 1 else " + deep.replace("#", "8"), 15);
        rents("90-1*(90-1*(90-1*(90-1*(90-1*(90-1*(90-1*gone))))))", 87);
        rents("90-90/(8-8/(8-8/(8-8/(8-8/(8-8/(8-8/8))))))", 78);
    }

    private void longestLaw() {
        due.about("a LAW of all the TOKENS that there can be");
        // Four TOKENS for a PERSON, three around the E, 393 in it.
        AbsentLords x = Due.county("person a 1;" + "goes=" + "1+".repeat(50) + "0*".repeat(146) + "1;");
        due.is("fifty and nothing", x.person(0, 6), 50);
        AbsentLords y = Due.county("goes=" + "7-".repeat(95) + "7;person a 1;comes=" + "0+".repeat(97) + "3;");
        due.is("held", y.person(0, 6), 0);
        due.is("behind it", y.person(0, 7), 3);
        AbsentLords z = Due.county("goes=1;" + "comes=2;".repeat(48) + "person a 9;" + "dies=3;".repeat(47) + "rents=4;goes=rent+5;");
        due.is("GOES", z.person(0, 6), 5);
        due.is("COMES", z.person(0, 7), 2);
        due.is("DIES", z.person(0, 8), 3);
    }

    /** LOT n of a SEED and a which, by the document's words, in longs. */
    private static int lot(int n, long seed, long which) {
        long h = seed;
        for (long it : new long[] {181, which}) {
            h = ((h ^ it) * 1103515245L + 12345L) & 0xffffffffL;
            h = h ^ h >> 15;
        }
        return (int) ((h >> 1) % n);
    }

    private void lots() {
        due.about("dies if LOT 100 of the SEED and 32 * the year and their number is less than DIES; .. and 8 ..; .. and 16 ..");
        int[] more = {8, 16, 0};
        for (int seed : new int[] {0, 1, 181, 5000, 9998, 9999}) {
            for (int year : new int[] {0, 1, 39, 40, 41, 200}) {
                for (int person = 0; person < 7; person++) {
                    for (int law = 0; law < 3; law++) {
                        int lot = lot(100, seed, 32L * year + more[law] + person);
                        struck(seed, year, person, law, lot, false);
                        struck(seed, year, person, law, lot + 1, true);
                    }
                }
            }
        }
    }

    private void struck(int seed, int year, int person, int law, int chance, boolean want) {
        String only = "if which < " + person + " then 0 else if " + person + " < which then 0 else if year < " + year + " then 0 else ";
        AbsentLords x = Due.county(Faults.many(7, "person p# 1;") + (law == 1 ? Faults.many(7, "away p# 1;") : "")
                + CHANCES[law] + " = " + only + chance + "; seed " + seed + ";");
        for (int years = year; years > 0; years -= 40) {
            x.years(Math.min(years, 40));
        }
        x.years(1);
        String call = CHANCES[law] + " " + chance + " of " + person + " in " + year + " by " + seed;
        int[] changed = {1, 0, 2};
        int[] same = {0, 1, 0};
        due.is(call, x.person(person, 1), want ? changed[law] : same[law]);
        due.is(call + ", all others stay", Integer.bitCount(x.count(law == 1 ? 4 : 3)), want ? 6 : 7);
    }

    private void leastAndMostLots() {
        due.about("is less than: LOT 0 and LOT 99");
        int least = -1;
        int most = -1;
        for (int seed = 0; seed <= 9999; seed++) {
            least = least < 0 && lot(100, seed, 0) == 0 ? seed : least;
            most = most < 0 && lot(100, seed, 0) == 99 ? seed : most;
        }
        struck(least, 0, 0, 2, 0, false);
        struck(least, 0, 0, 2, 1, true);
        struck(most, 0, 0, 2, 99, false);
        struck(most, 0, 0, 2, 100, true);
        struck(most, 0, 0, 2, 9999, true);
    }

    private void yearAsItBegan() {
        due.about("A YEAR, all by how it was as it began: of each HOUSE the LANDLORD gets RENTS");
        String county = "house h 10; house k 20; house l 30; person a 1; person b 1; right a h; right a k; right b k; right b l;"
                + "away a 5;";
        AbsentLords dies = Due.county(county + "dies = if which < 1 then 100 else 0;");
        dies.years(1);
        due.is("who dies gets that year's", dies.person(0, 3), 30);
        due.is("DEAD", dies.person(0, 1), 2);
        dies.years(1);
        due.is("and no more", dies.person(0, 3), 30);
        AbsentLords comes = Due.county(county + "comes = 100;");
        comes.years(1);
        due.is("who comes gets that year's", comes.person(0, 3), 30);
        due.is("HOME", comes.person(0, 1), 0);
        AbsentLords goes = Due.county(county + "goes = 100;");
        goes.years(1);
        due.is("who goes gets nothing yet", goes.person(1, 3), 0);
        goes.years(1);
        due.is("but then", goes.person(1, 3), 30);
        due.is("k is a's, who is gone longer", goes.person(0, 3), 60);
        // What one HOUSE pays is not seen by the RENTS of another in the same year.
        AbsentLords got = Due.county(county + "rents = rent + got;");
        got.years(1);
        due.is("10 and 20", got.person(0, 3), 30);
        got.years(1);
        due.is("40 and 50 more", got.person(0, 3), 120);
        // Nor who goes, dies or comes by the chances of others.
        AbsentLords home = Due.county("person a 1; person b 1; person c 1; away c 1; goes = if home < 2 then 0 else 100;"
                + "comes = if home < 2 then 100 else 0; dies = if home < 1 then 100 else 0;");
        home.years(1);
        due.is("both went, c stays", home.count(4), 7);
        home.years(1);
        due.is("all die", home.count(5), 7);
    }

    private void deathAheadOfGoing() {
        due.about("each PERSON alive dies ..; else who is HOME goes AWAY ..; who is AWAY comes HOME .., else is gone a year more");
        AbsentLords x = Due.county("person a 1; person b 1; away b 3; dies = 100; goes = 100; comes = 100;");
        x.years(1);
        due.is("both DEAD", x.count(5), 3);
        x.years(40);
        due.is("and stay so", x.count(5), 3);
        due.is("as old", x.person(0, 0), 1);
        AbsentLords y = Due.county("person a 1; person b 1; away b 3; goes = 100; comes = 100;");
        for (int year = 1; year <= 5; year++) {
            y.years(1);
            due.is("they change places, " + year, y.count(4), year % 2 == 1 ? 1 : 2);
            due.is("nobody is gone a year", y.count(14), 0);
        }
        AbsentLords z = Due.county("person a 1; person b 1; away b 3;");
        z.years(1);
        due.is("gone a year more", z.person(1, 2), 4);
        due.is("HOME stays HOME", z.person(0, 1), 0);
    }

    private void whoWent() {
        due.about("who went is gone 0 years. It is the next year.");
        AbsentLords x = Due.county("person a 1; goes = 100;");
        due.is("year 1", x.years(1), 1);
        due.is("gone 0 years", x.person(0, 2), 0);
        due.is("AWAY", x.person(0, 1), 1);
        due.is("year 2", x.years(1), 2);
        due.is("gone 1 year", x.person(0, 2), 1);
        due.is("year 42", x.years(40), 42);
        due.is("gone 41 years", x.person(0, 2), 41);
    }

    private void theLastYear() {
        due.about("An object is used for at most 512 calls");
        AbsentLords x = new AbsentLords();
        String text = Faults.many(5, "house h# 99;") + "person a 99;" + Faults.many(5, "right a h#;") + "away a 99;";
        int calls = (text.length() + 19) / 20 + 2;
        due.is("read", Due.read(x, text), 0);
        int years = 0;
        for (int i = calls; i < 509; i++) {
            years += 40;
            due.is("year", x.years(40), years);
        }
        due.is("call 510: got", x.person(0, 3), 495 * years);
        due.is("call 511: gone", x.person(0, 2), 99 + years);
        due.is("call 512: in 40 years", x.gotIn(0, 40), 495 * (years + 40));
    }
}
