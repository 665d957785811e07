/** Promises 6, 7 and 47: house, person and count, and what the LAWS say. */
public final class CountyTest {
    private static final int NONE = AbsentLords.NONE;

    private final Due due = new Due();

    public static void main(String[] args) {
        CountyTest test = new CountyTest();
        test.county();
        test.others();
        test.lawsNotTold();
        test.values();
        test.ifs();
        test.divisions();
        test.limits();
        test.lastOnes();
        test.theDead();
        test.variables();
        test.due.end();
    }

    private void all(String of, int[] want, java.util.function.IntUnaryOperator got) {
        for (int i = 0; i < want.length; i++) {
            due.is(of + " what " + i, got.applyAsInt(i), want[i]);
        }
    }

    private void county() {
        AbsentLords x = Due.county("house cot 10; house mill 25; house inn 5; person ann 30; person bob 25;"
                + "person cid 60; person dan 5; right ann cot; right bob cot; right cid mill; right bob mill;"
                + "right cid cot; away cid 7; away bob 7; away ann 0; goes = rent; comes = age * lord;"
                + "dies = gone - which; rents = rent + rights * 2 + home;");
        all("cot", new int[] {10, 1, 7, 15}, w -> x.house(0, w));
        all("mill", new int[] {25, 1, 6, 30}, w -> x.house(1, w));
        all("inn", new int[] {5, -2, 0, 0}, w -> x.house(2, w));
        all("ann", new int[] {30, 1, 0, 0, 1, 0, 0, 0, 0}, w -> x.person(0, w));
        all("bob", new int[] {25, 1, 7, 0, 3, 3, 35, 50, 6}, w -> x.person(1, w));
        all("cid", new int[] {60, 1, 7, 0, 3, 0, 0, 0, 5}, w -> x.person(2, w));
        all("dan", new int[] {5, 0, 0, 0, 0, 0, 0, 0, 0}, w -> x.person(3, w));
        all("count", new int[] {3, 4, 0, 8, 7, 0, 2, 0, 0, 0, 0, 0, 5, 40, 14, 45, 8}, x::count);
        x.feed(0, 0, 0, 0, 0);
        x.tell(0, 1);
        x.tell(0, 2);
        x.tell(0, 3);
        x.hold(2);
        x.hold(0);
        x.call(1);
        x.bury(2);
        all("count then", new int[] {3, 4, 0, 10, 1, 4, 1, 0, 20, 2, 3, 2, 5, 40, 0, 14, 8}, x::count);
        all("cid DEAD", new int[] {60, 2, 0, 0, 3, 0, 0, 0, 0}, w -> x.person(2, w));
        all("cot of ann", new int[] {10, 0, 7, 14}, w -> x.house(0, w));
    }

    private void others() {
        AbsentLords x = Due.county("house h 10; person a 30; right a h; away a 1;");
        for (int other : new int[] {-1, -2, 1, 5, 7, 32, Integer.MAX_VALUE, Integer.MIN_VALUE}) {
            for (int what = 0; what < 9; what++) {
                due.is("house " + other, x.house(other, what), NONE);
                due.is("person " + other, x.person(other, what), NONE);
            }
        }
        for (int what : new int[] {-1, 4, 9, 17, Integer.MAX_VALUE, Integer.MIN_VALUE}) {
            due.is("house what " + what, x.house(0, what), NONE);
            due.is("person what " + what, x.person(0, what == 4 ? 10 : what), NONE);
            due.is("count what " + what, x.count(what == 4 || what == 9 ? 18 : what), NONE);
        }
    }

    private void lawsNotTold() {
        AbsentLords x = Due.county("house h 37; person a 30; right a h; away a 99;");
        due.is("RENTS", x.house(0, 3), 37);
        due.is("GOES", x.person(0, 6), 0);
        due.is("COMES", x.person(0, 7), 0);
        due.is("DIES", x.person(0, 8), 0);
    }

    private void rents(String law, int want) {
        AbsentLords x = Due.county("house h 7; person a 10; right a h; away a 3; rents = " + law + ";");
        due.is("rents = " + law, x.house(0, 3), want);
    }

    private void values() {
        rents("1 + 2 * 3", 7);
        rents("2 * 3 + 1", 7);
        rents("(1 + 2) * 3", 9);
        rents("10 - 3 - 2", 5);
        rents("10 - (3 - 2)", 9);
        rents("60 / 6 / 5", 2);
        rents("60 / (6 / 5)", 60);
        rents("60 / 6 * 5", 50);
        rents("7 / 2", 3);
        rents("(0 - 7) / 2 + 10", 7);
        rents("7 / (0 - 2) + 10", 7);
        rents("0 - 7 / 2 + 10", 7);
        rents("0050", 50);
        int wrapped = 9999 * 9999 * 9999;
        rents("9999 * 9999 * 9999 / 9999 / 5000", Math.max(0, Math.min(99, wrapped / 9999 / 5000)));
        // 65536 * 32768 is the least of all ints, and stays so divided by -1.
        rents("if (256 * 256 * 256 * 128) / (0 - 1) < 0 then 41 else 42", 41);
        rents("if 256 * 256 * 256 * 128 - 1 < 0 then 41 else 42", 42);
        rents("rent", 7);
        rents("age", 10);
        rents("gone", 3);
        rents("got + 20", 20);
        rents("year + 20", 20);
        rents("rights * 20", 20);
        rents("lord * 20", 20);
        rents("which + 20", 20);
        rents("home + 20", 20);
        String deep = "1+1*(1+1*(1+1*(1+1*(1+1*(1+1*(1+1*#))))))";
        rents(deep.replace("#", "1"), 8);
        rents("if " + deep.replace("#", "1") + " < " + deep.replace("#", "2") + " then 42 else 7", 42);
        rents("if " + deep.replace("#", "2") + " < " + deep.replace("#", "2") + " then 42 else 7", 7);
    }

    private void ifs() {
        rents("if 1 < 2 then 3 else 4", 3);
        rents("if 2 < 2 then 3 else 4", 4);
        rents("if 3 < 2 then 3 else 4", 4);
        rents("if 0 - 1 < 0 then 5 else 6", 5);
        rents("if 2 < 1 then 1 else if 1 < 2 then 2 else if 1 < 2 then 3 else 4", 2);
        rents("if 2 < 1 then 1 else if 2 < 1 then 2 else if 1 < 2 then 3 else 4", 3);
        rents("if 2 < 1 then 1 else if 2 < 1 then 2 else if 2 < 1 then 3 else if 1 < 2 then 5 else 4", 5);
        rents("if 2 < 1 then 1 else if 2 < 1 then 2 else if 2 < 1 then 3 else if 2 < 1 then 5 else 4", 4);
        rents("if gone < age then rent * 2 else 1", 14);
    }

    private void divisions() {
        rents("5 + 1 / 0", 0);
        rents("5 + 0 * (1 / (3 - gone))", 0);
        rents("if 1 / 0 < 1 then 5 else 6", 0);
        rents("if 1 < 1 / 0 then 5 else 6", 0);
        rents("if 1 < 2 then 5 else 1 / 0", 5);
        rents("if 2 < 1 then 1 / 0 else 6", 6);
        rents("if 1 < 2 then 1 / 0 else 6", 0);
        rents("if 1 < 2 then 5 else if 1 / 0 < 1 then 1 else 2", 5);
        rents("if 2 < 1 then 5 else if 1 / 0 < 1 then 1 else 2", 0);
        rents("0 / 5 + 3", 3);
        rents("9 / home", 0);
    }

    private void limits() {
        rents("99", 99);
        rents("100", 99);
        rents("9999", 99);
        rents("0 - 1", 0);
        rents("0", 0);
        for (int i = 0; i < 3; i++) {
            String law = new String[] {"goes", "comes", "dies"}[i];
            int[] numbers = {0, 1, 99, 100, 101, 9999};
            for (int number : numbers) {
                AbsentLords x = Due.county("person a 10;" + law + " = " + number + ";");
                due.is(law + " = " + number, x.person(0, 6 + i), Math.min(number, 100));
                AbsentLords y = Due.county("person a 10;" + law + " = 0 - " + number + ";");
                due.is(law + " = -" + number, y.person(0, 6 + i), 0);
            }
        }
    }

    private void lastOnes() {
        AbsentLords x = Due.county("house h 7; person a 10; person b 11; right a h; away a 3; away b 1; away a 4;"
                + "goes = 1; comes = 2; dies = 3; rents = 4; goes = 5; comes = 6; dies = 7; rents = 8;");
        due.is("AWAY", x.person(0, 2), 4);
        due.is("the other", x.person(1, 2), 1);
        due.is("GOES", x.person(0, 6), 5);
        due.is("COMES", x.person(0, 7), 6);
        due.is("DIES", x.person(0, 8), 7);
        due.is("RENTS", x.house(0, 3), 8);
    }

    private void theDead() {
        AbsentLords x = Due.county("house h 7; person a 10; person b 20; right a h; right b h; away a 3; away b 9;");
        x.years(5);
        x.bury(1);
        x.years(4);
        due.is("age as it is now", x.person(0, 0), 19);
        due.is("age as they died", x.person(1, 0), 25);
        due.is("gone", x.person(0, 2), 12);
        due.is("gone of the DEAD", x.person(1, 2), 0);
        due.is("got", x.person(0, 3), 28);
        due.is("got of the DEAD", x.person(1, 3), 35);
        due.is("HOUSES of the DEAD", x.person(1, 4), 1);
        due.is("LANDLORD", x.house(0, 1), 0);
        due.is("RIGHTS stay", x.house(0, 2), 3);
        due.is("what all got", x.count(7), 63);
        due.is("DEAD", x.count(5), 2);
    }

    /** Each VAR of one who is no LANDLORD, of one who is, of one DEAD. */
    private void variables() {
        String[] vars = {"rent", "age", "gone", "got", "year", "rights", "lord", "which", "home"};
        int[] lord = {21, 14, 9, 63, 3, 3, 3, 0, 1};
        int[] other = {0, 25, 5, 0, 3, 1, 0, 1, 1};
        int[] home = {0, 36, 0, 0, 3, 0, 0, 2, 1};
        int[] dead = {0, 41, 0, 0, 3, 1, 0, 3, 1};
        for (int i = 0; i < vars.length; i++) {
            AbsentLords x = Due.county("house h 5; house k 7; house l 9; person a 11; person b 22; person c 33;"
                    + "person d 40; right a h; right a k; right a l; right b k; right d k; away a 6; away b 2;"
                    + "goes = " + vars[i] + ";");
            x.years(1);
            x.bury(3);
            x.years(2);
            due.is(vars[i] + " of a LANDLORD", x.person(0, 6), lord[i]);
            due.is(vars[i] + " of one AWAY", x.person(1, 6), other[i]);
            due.is(vars[i] + " of one HOME", x.person(2, 6), home[i]);
            due.is(vars[i] + " of one DEAD", x.person(3, 6), dead[i]);
        }
    }
}
