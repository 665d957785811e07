/** Promises 8 to 13 and 45, 46: send, call, bury, give, years, undo, hold, restore. */
public final class DeedsTest {
    private static final int[] NOBODY = {-1, -2, 3, 7, 32, Integer.MAX_VALUE, Integer.MIN_VALUE};
    private static final String COUNTY = "house h 5; house k 7; person a 10; person b 20; person c 30;"
            + "right a h; right b h; right c k; away b 3;";

    private final Due due = new Due();

    public static void main(String[] args) {
        DeedsTest test = new DeedsTest();
        test.send();
        test.call();
        test.bury();
        test.give();
        test.years();
        test.yearAsItBegan();
        test.undo();
        test.fortyThings();
        test.slots();
        test.due.end();
    }

    private void send() {
        AbsentLords x = Due.county(COUNTY);
        due.is("send a", x.send(0), true);
        due.is("AWAY", x.person(0, 1), 1);
        due.is("gone 0 years", x.person(0, 2), 0);
        due.is("gone the longest", x.house(0, 1), 1);
        due.is("send a again", x.send(0), false);
        due.is("send b, who is AWAY", x.send(1), false);
        due.is("gone as ahead", x.person(1, 2), 3);
        x.bury(2);
        due.is("send c, who is DEAD", x.send(2), false);
        for (int nobody : NOBODY) {
            due.is("send " + nobody, x.send(nobody), false);
        }
        due.is("things done", x.count(9), 2);
        x.years(1);
        due.is("gone then", x.person(0, 2), 1);
    }

    private void call() {
        AbsentLords x = Due.county(COUNTY);
        due.is("call b", x.call(1), true);
        due.is("HOME", x.person(1, 1), 0);
        due.is("gone", x.person(1, 2), 0);
        due.is("no LANDLORD", x.house(0, 1), -2);
        due.is("call b again", x.call(1), false);
        due.is("call a, who is HOME", x.call(0), false);
        x.bury(1);
        due.is("call b, who is DEAD", x.call(1), false);
        for (int nobody : NOBODY) {
            due.is("call " + nobody, x.call(nobody), false);
        }
        due.is("things done", x.count(9), 2);
    }

    private void bury() {
        AbsentLords x = Due.county(COUNTY);
        due.is("bury b", x.bury(1), true);
        due.is("bury a", x.bury(0), true);
        due.is("DEAD", x.count(5), 3);
        due.is("nobody AWAY", x.count(4), 0);
        due.is("no LANDLORD", x.house(0, 1), -2);
        due.is("bury b again", x.bury(1), false);
        for (int nobody : NOBODY) {
            due.is("bury " + nobody, x.bury(nobody), false);
        }
        due.is("things done", x.count(9), 2);
        x.years(3);
        due.is("the DEAD stay DEAD", x.count(5), 3);
        due.is("and as old", x.person(0, 0), 10);
    }

    private void give() {
        AbsentLords x = Due.county(COUNTY);
        due.is("given", x.give(1, 1, true), true);
        due.is("LANDLORD", x.house(1, 1), 1);
        due.is("who has a RIGHT", x.house(1, 2), 6);
        due.is("given again", x.give(1, 1, true), false);
        due.is("taken", x.give(1, 0, false), true);
        due.is("no LANDLORD", x.house(0, 1), -2);
        due.is("taken again", x.give(1, 0, false), false);
        due.is("RIGHTS", x.count(12), 3);
        due.is("things done", x.count(9), 2);
        for (int nobody : NOBODY) {
            due.is("give to " + nobody, x.give(nobody, 0, true), false);
            due.is("take from " + nobody, x.give(nobody, 0, false), false);
        }
        for (int nothing : new int[] {-1, 2, 5, 32, Integer.MAX_VALUE, Integer.MIN_VALUE}) {
            due.is("give " + nothing, x.give(0, nothing, true), false);
            due.is("take " + nothing, x.give(0, nothing, false), false);
        }
        x.bury(0);
        due.is("to the DEAD", x.give(0, 1, true), true);
        due.is("who has a RIGHT then", x.house(1, 2), 7);
        due.is("LANDLORD as ahead", x.house(1, 1), 1);
    }

    private void years() {
        AbsentLords x = Due.county(COUNTY);
        due.is("years(0)", x.years(0), 0);
        due.is("no thing done", x.count(9), 0);
        due.is("years(40)", x.years(40), 40);
        due.is("years(1)", x.years(1), 41);
        due.is("things done", x.count(9), 2);
        due.is("years(0) then", x.years(0), 41);
        for (int n : new int[] {-1, 41, Integer.MAX_VALUE, Integer.MIN_VALUE}) {
            due.is("years(" + n + ")", x.years(n), AbsentLords.NONE);
        }
        due.is("year", x.count(2), 41);
        due.is("things done as ahead", x.count(9), 2);
        due.is("got", x.person(1, 3), 205);
        due.is("gone", x.person(1, 2), 44);
        due.is("age", x.person(0, 0), 51);
        // The lots of SEED 0 in year 0 for the first one: 9 to die, 18 to go, 88 to come.
        due.is("not to die", after("", "dies = 9;"), 0);
        due.is("to die", after("", "dies = 10;"), 2);
        due.is("not to go", after("", "goes = 18;"), 0);
        due.is("to go", after("", "goes = 19;"), 1);
        due.is("not to come", after("away a 1;", "comes = 88;"), 1);
        due.is("to come", after("away a 1;", "comes = 89;"), 0);
        due.is("to die, not to go", after("", "dies = 10; goes = 100;"), 2);
        due.is("to die, not to come", after("away a 1;", "dies = 10; comes = 100;"), 2);
        due.is("goes is for who is HOME", after("away a 1;", "goes = 100;"), 1);
        due.is("comes is for who is AWAY", after("", "comes = 100;"), 0);
        // Of SEED 77: 85 to die, 39 to go, 72 to come.
        due.is("77, not to go", after("", "seed 77; goes = 39;"), 0);
        due.is("77, to go", after("", "seed 77; goes = 40;"), 1);
        manyYears();
    }

    private int after(String away, String laws) {
        AbsentLords x = Due.county("person a 10;" + away + laws);
        x.years(1);
        return x.person(0, 1);
    }

    /** By lots that were reckoned apart from this program. */
    private void manyYears() {
        int[] home = {48, 68, 5, 80, 80, 65, 64, 32};
        int[] away = {69, 49, 112, 33, 33, 48, 33, 65};
        int[] dead = {10, 10, 10, 14, 14, 14, 30, 30};
        int[] gone = {7, 1, 2, 2, 4, 4, 5, 1};
        AbsentLords x = Due.county("person a 1; person b 1; person c 1; person d 1; person e 1; person f 1; person g 1;"
                + "away c 5; away g 0; seed 77; dies = 10; goes = 40; comes = 30;");
        for (int i = 0; i < home.length; i++) {
            due.is("year " + i, x.years(1), i + 1);
            due.is("HOME then", x.count(3), home[i]);
            due.is("AWAY then", x.count(4), away[i]);
            due.is("DEAD then", x.count(5), dead[i]);
            due.is("gone then", x.count(14), gone[i]);
        }
        for (int i = 0; i < home.length; i++) {
            x.undo();
        }
        x.years(8);
        due.is("HOME in one go", x.count(3), 32);
        due.is("DEAD in one go", x.count(5), 30);
    }

    /** Nobody sees in a year what others, or they themselves, got or did in it. */
    private void yearAsItBegan() {
        AbsentLords x = Due.county("house h 5; house k 7; person a 10; person b 10; right a h; right a k; right b k;"
                + "away a 1; rents = rent + got + home; goes = if got < 1 then 100 else 0;"
                + "comes = if 0 < got then 100 else 0; dies = if 2 < home then 100 else 0;");
        x.years(1);
        due.is("got both HOUSES' RENTS", x.person(0, 3), 14);
        due.is("a stays AWAY, having got nothing", x.person(0, 2), 2);
        due.is("b went", x.person(1, 1), 1);
        due.is("gone 0 years", x.person(1, 2), 0);
        x.years(1);
        due.is("with what was got ahead", x.person(0, 3), 14 + 5 + 14 + 7 + 14);
        due.is("a came", x.person(0, 1), 0);
        due.is("b is gone a year", x.person(1, 2), 1);
        x.years(1);
        due.is("b got then", x.person(1, 3), 8);
    }

    private void undo() {
        AbsentLords x = Due.county(COUNTY);
        due.is("undo of nothing", x.undo(), false);
        x.years(2);
        x.send(0);
        x.call(1);
        x.give(2, 0, true);
        x.bury(2);
        x.years(3);
        due.is("things", x.count(9), 6);
        due.is("undo years", x.undo(), true);
        due.is("year", x.count(2), 2);
        due.is("got", x.count(7), 10);
        due.is("undo bury", x.undo(), true);
        due.is("DEAD", x.count(5), 0);
        due.is("undo give", x.undo(), true);
        due.is("RIGHTS", x.house(0, 2), 3);
        due.is("undo call", x.undo(), true);
        due.is("gone", x.person(1, 2), 5);
        due.is("things then", x.count(9), 2);
        due.is("undo send", x.undo(), true);
        due.is("HOME", x.count(3), 5);
        due.is("undo years", x.undo(), true);
        due.is("year 0", x.count(2), 0);
        due.is("nothing got", x.count(7), 0);
        due.is("age", x.person(2, 0), 30);
        due.is("undo no more", x.undo(), false);
        x.send(0);
        x.send(0);
        x.years(0);
        x.tell(0, 1);
        x.hold(0);
        due.is("only what was done", x.count(9), 1);
        x.undo();
        due.is("TOLD stays", x.count(10), 1);
        due.is("SLOTS stay", x.count(11), 1);
    }

    private void fortyThings() {
        AbsentLords x = Due.county(COUNTY);
        for (int i = 1; i <= 45; i++) {
            x.years(1);
            due.is("things at " + i, x.count(9), Math.min(i, 40));
        }
        for (int i = 1; i <= 40; i++) {
            due.is("undo " + i, x.undo(), true);
            due.is("year then", x.count(2), 45 - i);
        }
        due.is("the 41st", x.undo(), false);
        due.is("year 5", x.count(2), 5);
        due.is("got in 5", x.count(7), 25);
        x.send(0);
        due.is("one more", x.undo(), true);
        due.is("and no more", x.undo(), false);
    }

    private void slots() {
        AbsentLords x = Due.county(COUNTY);
        for (int slot : new int[] {-1, 3, 32, Integer.MAX_VALUE, Integer.MIN_VALUE}) {
            due.is("hold " + slot, x.hold(slot), false);
            due.is("restore " + slot, x.restore(slot), false);
        }
        for (int slot = 0; slot < 3; slot++) {
            due.is("restore of nothing", x.restore(slot), false);
        }
        x.send(0);
        due.is("hold 0", x.hold(0), true);
        due.is("hold is no thing done", x.count(9), 1);
        x.years(4);
        x.give(0, 1, true);
        x.bury(1);
        x.tell(0, 1);
        due.is("hold 2", x.hold(2), true);
        due.is("SLOTS", x.count(11), 2);
        due.is("restore 1", x.restore(1), false);
        due.is("nothing happened", x.count(9), 4);
        x.feed(0, 0, 0, 0, 0);
        due.is("restore 0", x.restore(0), true);
        due.is("year", x.count(2), 0);
        due.is("AWAY", x.count(4), 3);
        due.is("got", x.count(7), 0);
        due.is("RIGHTS", x.count(12), 3);
        due.is("TOLD stays", x.count(10), 1);
        due.is("the tape stays", x.count(8), 20);
        due.is("nothing can be undone", x.count(9), 0);
        due.is("undo", x.undo(), false);
        due.is("restore 2", x.restore(2), true);
        due.is("year 4", x.count(2), 4);
        due.is("DEAD", x.count(5), 2);
        due.is("RIGHTS then", x.count(12), 4);
        due.is("got then", x.count(7), 20);
        x.years(1);
        due.is("that stays there", x.restore(2), true);
        due.is("year 4 again", x.count(2), 4);
        x.years(2);
        x.hold(2);
        x.years(2);
        x.restore(2);
        due.is("held anew", x.count(2), 6);
        due.is("SLOTS then", x.count(11), 2);
    }
}
