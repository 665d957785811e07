/** Each sentence of promises 33 to 44 that names an edge: letters, and the orders that they leave. */
public final class EdgeLetterTest {
    private static final int NONE = AbsentLords.NONE;
    private static final int NO_ORDERS = -2;
    private static final String PEOPLE = Faults.many(7, "person p# 1;");

    private final Due due = new Due();

    public static void main(String[] args) {
        EdgeLetterTest test = new EdgeLetterTest();
        test.tell();
        test.notTold();
        test.forget();
        test.knownByK();
        test.noSuchK();
        test.orders();
        test.allPeople();
        test.firstAndLast();
        test.placed();
        test.before();
        test.sum();
        test.ahead();
        test.noOrders();
        test.foremost();
        test.ask();
        test.order();
        test.orderOfAll();
        test.noPeople();
        test.onePerson();
        test.noSuchPerson();
        test.due.end();
    }

    /** Seven PEOPLE, of whom each of these went before the next. */
    private static AbsentLords chain(int... people) {
        AbsentLords x = Due.county(PEOPLE);
        for (int i = 0; i + 1 < people.length; i++) {
            x.tell(people[i], people[i + 1]);
        }
        return x;
    }

    private static AbsentLords full() {
        AbsentLords x = Due.county(PEOPLE);
        for (int i = 0; i < 20; i++) {
            x.tell(i % 6, 6);
        }
        return x;
    }

    private void tell() {
        due.about("Promise 33: It is TOLD ..: its number (20 at most, numbered from 0 on)");
        AbsentLords x = Due.county(PEOPLE);
        for (int i = 0; i < 20; i++) {
            due.is("tell", x.tell(i % 6, 6), i);
            due.is("TOLD", x.count(10), i + 1);
        }
        due.is("no thing done", x.count(9), 0);
        AbsentLords same = Due.county(PEOPLE);
        due.is("one letter", same.tell(0, 6), 0);
        due.is("once more", same.tell(0, 6), 1);
        due.is("the other way", same.tell(6, 0), 2);
        AbsentLords dead = Due.county(PEOPLE + "away pb 1;");
        dead.bury(0);
        due.is("of one DEAD and one AWAY", dead.tell(0, 1), 0);
        due.is("of one HOME and one DEAD", dead.tell(2, 0), 1);
    }

    private void notTold() {
        due.about("Promise 33: NONE, and nothing happens: 20 are there, no such ones, one and the same.");
        due.is("a 21st", full().tell(0, 1), NONE);
        Seen.unchanged(due, "a 21st", EdgeLetterTest::full, x -> x.tell(0, 1));
        due.is("one and the same", Busy.county().tell(0, 0), NONE);
        Seen.unchanged(due, "tell(0, 0)", Busy::county, x -> x.tell(0, 0));
        due.is("one and the same, the last", Busy.county().tell(6, 6), NONE);
        for (int person : Edges.NO_PERSON) {
            due.is("tell(" + person + ", 0)", Busy.county().tell(person, 0), NONE);
            due.is("tell(0, " + person + ")", Busy.county().tell(0, person), NONE);
            due.is("tell(" + person + ", " + person + ")", Busy.county().tell(person, person), NONE);
            Seen.unchanged(due, "tell(" + person + ", 0)", Busy::county, x -> x.tell(person, 0));
            Seen.unchanged(due, "tell(0, " + person + ")", Busy::county, x -> x.tell(0, person));
        }
        due.is("no PEOPLE", new AbsentLords().tell(0, 1), NONE);
        due.is("one PERSON", Due.county("person a 1;").tell(0, 0), NONE);
    }

    private void forget() {
        due.about("Promise 34: All that was TOLD is forgotten: how many there were.");
        due.is("of a new object", new AbsentLords().forget(), 0);
        due.is("of one", chain(0, 1).forget(), 1);
        AbsentLords x = full();
        due.is("of 20", x.forget(), 20);
        due.is("of none", x.forget(), 0);
        due.is("TOLD", x.count(10), 0);
        due.is("ORDERS", x.orders(0), 5040);
        due.is("no k 1", x.orders(1), NONE);
        due.is("from 0 on again", x.tell(6, 0), 0);
        due.is("of that alone", x.orders(1), 2520);
        Seen.alike(due, "nothing else is forgotten:", () -> {
            AbsentLords y = Busy.county();
            y.forget();
            y.tell(0, 1);
            y.tell(2, 3);
            y.tell(1, 3);
            return y;
        }, Busy::county);
    }

    private void knownByK() {
        due.about("KNOWN by k: the first k");
        AbsentLords x = chain(0, 1, 2, 3, 4, 5, 6);
        int orders = 5040;
        for (int k = 0; k <= 6; k++) {
            due.is("orders(" + k + ")", x.orders(k), orders);
            orders /= k + 2;
        }
        due.is("by none of them", x.ahead(0, 6), 0);
        due.is("by all but the last", x.ahead(5, 5), 31);
        due.is("the last is not KNOWN", x.ahead(5, 6), 0);
        due.is("by all", x.ahead(6, 6), 63);
        due.is("by 20", full().orders(20), 720);
        due.is("by 5 of 20: five before g", full().orders(5), 840);
        // Each asked by all behind one by none, and by none behind one by all.
        for (int k = 6; k >= 0; k -= 6) {
            int other = 6 - k;
            int known = k / 6;
            x.orders(other);
            due.is("first by " + k, x.first(k, 6), 6 * known);
            x.orders(other);
            due.is("last by " + k, x.last(k, 0), 6 - 6 * known);
            x.orders(other);
            due.is("placed by " + k, x.placed(k, 0, 0), known == 1 ? 1 : 720);
            x.orders(other);
            due.is("before by " + k, x.before(k, 6, 0), known == 1 ? 0 : 2520);
            x.orders(other);
            due.is("sum by " + k, x.sum(k, 1), known == 1 ? 1 : 15120);
            x.orders(other);
            due.is("ahead by " + k, x.ahead(k, 6), 63 * known);
            x.orders(other);
            due.is("order by " + k, x.order(k, 719, 0), known == 1 ? NONE : 0);
            x.orders(other);
            due.is("orders by " + k, x.orders(k), known == 1 ? 1 : 5040);
        }
        AbsentLords y = told(2, 0, 2, 1);
        y.orders(0);
        due.is("foremost by 2", y.foremost(2), 2);
        due.is("foremost by 0", y.foremost(0), 0);
        y.orders(0);
        due.is("ask by 1", y.ask(1), 13);
        due.is("ask by 0", y.ask(0), 1);
    }

    private void noSuchK() {
        due.about("NONE: no such k");
        AbsentLords[] all = {new AbsentLords(), Due.county(PEOPLE), chain(0, 1), full()};
        for (AbsentLords x : all) {
            int told = x.count(10);
            for (int k : new int[] {-1, -2, told + 1, told + 2, 21, Integer.MAX_VALUE, Integer.MIN_VALUE}) {
                due.is("orders(" + k + ")", x.orders(k), NONE);
                due.is("first(" + k + ", 0)", x.first(k, 0), NONE);
                due.is("last(" + k + ", 0)", x.last(k, 0), NONE);
                due.is("placed(" + k + ", 0, 0)", x.placed(k, 0, 0), NONE);
                due.is("before(" + k + ", 0, 1)", x.before(k, 0, 1), NONE);
                due.is("sum(" + k + ", 0)", x.sum(k, 0), NONE);
                due.is("ahead(" + k + ", 0)", x.ahead(k, 0), NONE);
                due.is("foremost(" + k + ")", x.foremost(k), NONE);
                due.is("ask(" + k + ")", x.ask(k), NONE);
                due.is("order(" + k + ", 0, 0)", x.order(k, 0, 0), NONE);
            }
        }
    }

    private void orders() {
        due.about("ORDERS: in how many orders all PEOPLE .. can have gone");
        int all = 1;
        for (int people = 0; people <= 7; people++) {
            all *= Math.max(1, people);
            due.is("of " + people, Due.county(Faults.many(people, "person p# 1;")).orders(0), all);
        }
        due.is("one alone", chain(0, 1, 2, 3, 4, 5, 6).orders(6), 1);
        due.is("none: a ring of two", chain(0, 1, 0).orders(2), 0);
        due.is("none: a ring of seven", chain(0, 1, 2, 3, 4, 5, 6, 0).orders(7), 0);
        due.is("a ring not KNOWN yet", chain(0, 1, 2, 3, 4, 5, 6, 0).orders(6), 1);
        due.is("one letter", chain(0, 1).orders(1), 2520);
        AbsentLords twice = chain(0, 1);
        twice.tell(0, 1);
        due.is("one letter twice", twice.orders(2), 2520);
        due.is("two and two", told(0, 1, 2, 3).orders(2), 1260);
        due.is("two before one", told(0, 2, 1, 2).orders(2), 1680);
        due.is("one before two", told(2, 0, 2, 1).orders(2), 1680);
    }

    private static AbsentLords told(int... pairs) {
        AbsentLords x = Due.county(PEOPLE);
        for (int i = 0; i < pairs.length; i += 2) {
            x.tell(pairs[i], pairs[i + 1]);
        }
        return x;
    }

    private void allPeople() {
        due.about("all PEOPLE (HOME, AWAY or DEAD)");
        AbsentLords x = Due.county(PEOPLE + "away pa 1; away pb 2;");
        x.bury(2);
        due.is("orders", x.orders(0), 5040);
        for (int person = 0; person < 7; person++) {
            x.bury(person);
        }
        due.is("all DEAD", x.orders(0), 5040);
        due.is("foremost", x.foremost(0), 0);
    }

    private void firstAndLast() {
        due.about("FIRST, LAST of a PERSON: the earliest, the latest place (from 0 on) that they have in any of these");
        AbsentLords none = Due.county(PEOPLE);
        AbsentLords chain = chain(6, 5, 4, 3, 2, 1, 0);
        for (int person = 0; person < 7; person++) {
            due.is("first of all", none.first(0, person), 0);
            due.is("last of all", none.last(0, person), 6);
            due.is("first in a chain", chain.first(6, person), 6 - person);
            due.is("last in a chain", chain.last(6, person), 6 - person);
        }
        AbsentLords x = told(0, 3, 1, 3, 2, 3, 3, 4);
        due.is("behind three", x.first(4, 3), 3);
        due.is("ahead of one", x.last(4, 3), 5);
        due.is("behind four", x.first(4, 4), 4);
        due.is("the last", x.last(4, 4), 6);
        due.is("ahead of two", x.last(4, 0), 4);
        due.is("free", x.last(4, 6), 6);
    }

    private void placed() {
        due.about("Promise 38: PLACE (at 0 .. how many PEOPLE there are less 1); NONE: no such ones.");
        AbsentLords x = told(0, 6);
        for (int at = 0; at < 7; at++) {
            due.is("a at " + at, x.placed(1, 0, at), (6 - at) * 120);
            due.is("g at " + at, x.placed(1, 6, at), at * 120);
            due.is("c at " + at, x.placed(1, 2, at), 360);
            due.is("nothing KNOWN, at " + at, x.placed(0, 0, at), 720);
        }
        for (int at : Edges.NO_PERSON) {
            due.is("at " + at, x.placed(1, 0, at), NONE);
        }
        AbsentLords three = Due.county(Faults.many(3, "person p# 1;"));
        due.is("at 2 of 3", three.placed(0, 0, 2), 2);
        due.is("at 3 of 3", three.placed(0, 0, 3), NONE);
    }

    private void before() {
        due.about("Promise 39: BEFORE; NONE: no such ones, one and the same.");
        AbsentLords x = told(0, 6);
        due.is("in all", x.before(1, 0, 6), 2520);
        due.is("in none", x.before(1, 6, 0), 0);
        due.is("in two thirds", x.before(1, 0, 3), 1680);
        due.is("in one third", x.before(1, 3, 0), 840);
        due.is("in half", x.before(1, 3, 4), 1260);
        due.is("nothing KNOWN", x.before(0, 6, 0), 2520);
        for (int person = 0; person < 7; person++) {
            due.is("one and the same", x.before(1, person, person), NONE);
        }
    }

    private void sum() {
        due.about("SUM of a PERSON: places that they have in all, added");
        AbsentLords none = Due.county(PEOPLE);
        AbsentLords chain = chain(0, 1, 2, 3, 4, 5, 6);
        for (int person = 0; person < 7; person++) {
            due.is("of all", none.sum(0, person), 5040 * 3);
            due.is("in a chain", chain.sum(6, person), person);
        }
        due.is("of six, the last", full().sum(20, 6), 720 * 6);
        due.is("always the first", told(0, 1, 0, 2, 0, 3, 0, 4, 0, 5, 0, 6).sum(6, 0), 0);
    }

    private void ahead() {
        due.about("AHEAD of a PERSON: who went before them in all (bits)");
        AbsentLords chain = chain(0, 1, 2, 3, 4, 5, 6);
        for (int person = 0; person < 7; person++) {
            due.is("in a chain", chain.ahead(6, person), (1 << person) - 1);
            due.is("nothing KNOWN", chain.ahead(0, person), 0);
        }
        due.is("by others, too", told(4, 6, 2, 4).ahead(2, 6), 16 + 4);
        due.is("nobody ahead", told(4, 6, 2, 4).ahead(2, 2), 0);
        due.is("not who is free", told(4, 6, 2, 4).ahead(2, 0), 0);
    }

    private void noOrders() {
        due.about("-2: no ORDERS");
        AbsentLords x = chain(0, 1, 0);
        for (int person = 0; person < 7; person++) {
            due.is("first", x.first(2, person), NO_ORDERS);
            due.is("last", x.last(2, person), NO_ORDERS);
            due.is("ahead", x.ahead(2, person), NO_ORDERS);
            due.is("sum of none", x.sum(2, person), 0);
            for (int at = 0; at < 7; at++) {
                due.is("placed in none", x.placed(2, person, at), 0);
                due.is("order 0 of none", x.order(2, 0, at), NONE);
            }
        }
        due.is("before in none", x.before(2, 0, 1), 0);
        due.is("before in none", x.before(2, 5, 6), 0);
        due.is("foremost", x.foremost(2), NO_ORDERS);
        due.is("ask", x.ask(2), NO_ORDERS);
        due.is("by 1 there are", x.first(1, 0), 0);
        for (int person : Edges.NO_PERSON) {
            due.is("first of " + person, x.first(2, person), NONE);
            due.is("last of " + person, x.last(2, person), NONE);
            due.is("ahead of " + person, x.ahead(2, person), NONE);
            due.is("sum of " + person, x.sum(2, person), NONE);
            due.is("placed of " + person, x.placed(2, person, 0), NONE);
            due.is("before of " + person, x.before(2, person, 0), NONE);
        }
    }

    private void foremost() {
        due.about("FOREMOST: who is first in most, of alike ones the first");
        due.is("all alike", Due.county(PEOPLE).foremost(0), 0);
        due.is("behind one", told(1, 0).foremost(1), 1);
        due.is("the last", chain(6, 5, 4, 3, 2, 1, 0).foremost(6), 6);
        due.is("g ahead of three", told(0, 1, 6, 2, 6, 3, 6, 4).foremost(4), 6);
        // Of two pairs and three others both ahead of one are first in as many.
        due.is("a and c alike", told(2, 3, 0, 1).foremost(2), 0);
        due.is("b and c alike", told(1, 0, 2, 3).foremost(2), 1);
    }

    private void ask() {
        due.about("ASK: the two (the lesser first) of whom .. fewest orders are left, at worst; of alike ones the first (10 * the lesser + the other)");
        due.is("all alike", Due.county(PEOPLE).ask(0), 1);
        due.is("a and b are KNOWN", told(0, 1).ask(1), 23);
        due.is("the lesser first", chain(5, 4, 3, 2, 1, 0).ask(5), 26);
        due.is("one order: all alike", chain(6, 5, 4, 3, 2, 1, 0).ask(6), 1);
        due.is("the last two", told(0, 1, 1, 2, 2, 3, 3, 4, 4, 5, 4, 6).ask(6), 56);
        AbsentLords two = Due.county("person a 1; person b 1;");
        due.is("of two", two.ask(0), 1);
        two.tell(1, 0);
        due.is("of two, KNOWN", two.ask(1), 1);
    }

    private void order() {
        due.about("Promise 44: ORDER of i: who is at a place; NONE: no such ones.");
        AbsentLords x = Due.county(PEOPLE);
        for (int at = 0; at < 7; at++) {
            due.is("the first order", x.order(0, 0, at), at);
            due.is("the last order", x.order(0, 5039, at), 6 - at);
        }
        for (int i : new int[] {-1, -2, 5040, 5041, Integer.MAX_VALUE, Integer.MIN_VALUE}) {
            due.is("order " + i, x.order(0, i, 0), NONE);
            due.is("order " + i + " at the end", x.order(0, i, 6), NONE);
        }
        for (int at : Edges.NO_PERSON) {
            due.is("at " + at, x.order(0, 0, at), NONE);
            due.is("the last one at " + at, x.order(0, 5039, at), NONE);
        }
        AbsentLords half = told(6, 0);
        due.is("the last of half", half.order(1, 2519, 0), 6);
        due.is("one more", half.order(1, 2520, 0), NONE);
        due.is("the first of half", half.order(1, 0, 0), 1);
        AbsentLords one = chain(3, 6, 0, 5, 1, 4, 2);
        int[] want = {3, 6, 0, 5, 1, 4, 2};
        for (int at = 0; at < 7; at++) {
            due.is("of one", one.order(6, 0, at), want[at]);
            due.is("no other", one.order(6, 1, at), NONE);
        }
    }

    private void orderOfAll() {
        due.about("ORDER of i: the i-th of these orders, by who is first, the lowest PERSON ahead, then who is next, and so on");
        int[][] want = {{0, 1, 2, 3}, {0, 1, 3, 2}, {0, 2, 1, 3}, {0, 2, 3, 1}, {0, 3, 1, 2}, {0, 3, 2, 1}, {1, 0, 2, 3}, {1, 0, 3, 2},
            {1, 2, 0, 3}, {1, 2, 3, 0}, {1, 3, 0, 2}, {1, 3, 2, 0}, {2, 0, 1, 3}, {2, 0, 3, 1}, {2, 1, 0, 3}, {2, 1, 3, 0}, {2, 3, 0, 1},
            {2, 3, 1, 0}, {3, 0, 1, 2}, {3, 0, 2, 1}, {3, 1, 0, 2}, {3, 1, 2, 0}, {3, 2, 0, 1}, {3, 2, 1, 0}};
        AbsentLords x = Due.county(Faults.many(4, "person p# 1;"));
        x.tell(3, 1);
        int known = 0;
        for (int i = 0; i < want.length; i++) {
            boolean so = placeOf(3, want[i]) < placeOf(1, want[i]);
            for (int at = 0; at < 4; at++) {
                due.is("order " + i, x.order(0, i, at), want[i][at]);
                if (so) {
                    due.is("KNOWN, order " + known, x.order(1, known, at), want[i][at]);
                }
            }
            known += so ? 1 : 0;
        }
        due.is("so many", x.orders(1), known);
        due.is("no more", x.order(1, known, 0), NONE);
    }

    private static int placeOf(int person, int[] order) {
        int at = 0;
        while (order[at] != person) {
            at++;
        }
        return at;
    }

    private void noPeople() {
        due.about("no PEOPLE");
        AbsentLords[] all = {new AbsentLords(), Due.county("house h 1;")};
        for (AbsentLords x : all) {
            due.is("one order of nobody", x.orders(0), 1);
            due.is("foremost: -2", x.foremost(0), -2);
            due.is("ask: -2, there are not two", x.ask(0), -2);
            due.is("first", x.first(0, 0), NONE);
            due.is("last", x.last(0, 0), NONE);
            due.is("placed", x.placed(0, 0, 0), NONE);
            due.is("before", x.before(0, 0, 1), NONE);
            due.is("sum", x.sum(0, 0), NONE);
            due.is("ahead", x.ahead(0, 0), NONE);
            due.is("order", x.order(0, 0, 0), NONE);
        }
    }

    private void onePerson() {
        due.about("ask: -2: .. there are not two");
        AbsentLords x = Due.county("person a 1;");
        due.is("ask", x.ask(0), -2);
        due.is("orders", x.orders(0), 1);
        due.is("first", x.first(0, 0), 0);
        due.is("last", x.last(0, 0), 0);
        due.is("placed", x.placed(0, 0, 0), 1);
        due.is("sum", x.sum(0, 0), 0);
        due.is("ahead", x.ahead(0, 0), 0);
        due.is("foremost", x.foremost(0), 0);
        due.is("order", x.order(0, 0, 0), 0);
        due.is("order 1", x.order(0, 1, 0), NONE);
        due.is("at 1", x.order(0, 0, 1), NONE);
    }

    private void noSuchPerson() {
        due.about("NONE: no such ones");
        AbsentLords x = full();
        for (int person : Edges.NO_PERSON) {
            due.is("first(20, " + person + ")", x.first(20, person), NONE);
            due.is("last(20, " + person + ")", x.last(20, person), NONE);
            due.is("placed(20, " + person + ", 0)", x.placed(20, person, 0), NONE);
            due.is("before(20, " + person + ", 0)", x.before(20, person, 0), NONE);
            due.is("before(20, 0, " + person + ")", x.before(20, 0, person), NONE);
            due.is("sum(20, " + person + ")", x.sum(20, person), NONE);
            due.is("ahead(20, " + person + ")", x.ahead(20, person), NONE);
        }
        due.is("first of the last", x.first(20, 6), 6);
        due.is("ahead of the last", x.ahead(20, 6), 63);
        due.is("before, the last", x.before(20, 0, 6), 720);
    }
}
