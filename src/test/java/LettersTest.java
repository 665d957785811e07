/** Promises 33 to 44: tell, forget, and the orders that are left. */
public final class LettersTest {
    private static final int NONE = AbsentLords.NONE;
    private static final String SEVEN =
            "person a 1; person b 1; person c 1; person d 1; person e 1; person f 1; person g 1;";
    private static final String FOUR = "person a 1; person b 1; person c 1; person d 1;";
    private static final int[] NOBODY = {-1, 4, 7, 32, Integer.MAX_VALUE, Integer.MIN_VALUE};

    private final Due due = new Due();

    public static void main(String[] args) {
        LettersTest test = new LettersTest();
        test.tell();
        test.noPeople();
        test.nothingKnown();
        test.diamond();
        test.chain();
        test.notSo();
        test.ask();
        test.eachByItself();
        test.wrongOnes();
        test.due.end();
    }

    private void tell() {
        AbsentLords x = Due.county(FOUR);
        due.is("forget nothing", x.forget(), 0);
        for (int i = 0; i < 20; i++) {
            due.is("tell", x.tell(i % 3, 3), i);
        }
        due.is("a 21st", x.tell(0, 3), NONE);
        due.is("TOLD", x.count(10), 20);
        due.is("things done", x.count(9), 0);
        due.is("orders", x.orders(20), 6);
        due.is("forget", x.forget(), 20);
        due.is("forget again", x.forget(), 0);
        due.is("orders of all", x.orders(0), 24);
        due.is("k 1", x.orders(1), NONE);
        due.is("tell anew", x.tell(3, 0), 0);
        due.is("one and the same", x.tell(2, 2), NONE);
        for (int nobody : NOBODY) {
            due.is("tell " + nobody, x.tell(nobody, 0), NONE);
            due.is("tell of " + nobody, x.tell(0, nobody), NONE);
        }
        due.is("nothing happened", x.count(10), 1);
        x.bury(0);
        x.send(1);
        due.is("HOME, AWAY or DEAD", x.tell(0, 1), 1);
        due.is("orders of all, too", x.orders(0), 24);
        x.undo();
        x.undo();
        due.is("undo leaves it", x.count(10), 2);
    }

    private void noPeople() {
        AbsentLords x = new AbsentLords();
        due.is("orders", x.orders(0), 1);
        due.is("k 1", x.orders(1), NONE);
        due.is("foremost", x.foremost(0), -2);
        due.is("ask", x.ask(0), -2);
        due.is("first", x.first(0, 0), NONE);
        due.is("order", x.order(0, 0, 0), NONE);
        AbsentLords y = Due.county("person a 1;");
        due.is("one: orders", y.orders(0), 1);
        due.is("one: foremost", y.foremost(0), 0);
        due.is("one: ask", y.ask(0), -2);
        due.is("one: order", y.order(0, 0, 0), 0);
        due.is("one: sum", y.sum(0, 0), 0);
    }

    private void nothingKnown() {
        AbsentLords x = Due.county(SEVEN);
        due.is("orders", x.orders(0), 5040);
        for (int person = 0; person < 7; person++) {
            due.is("first", x.first(0, person), 0);
            due.is("last", x.last(0, person), 6);
            due.is("sum", x.sum(0, person), 720 * 21);
            due.is("ahead", x.ahead(0, person), 0);
            for (int at = 0; at < 7; at++) {
                due.is("placed", x.placed(0, person, at), 720);
                due.is("the first order", x.order(0, 0, at), at);
                due.is("the last order", x.order(0, 5039, at), 6 - at);
            }
        }
        due.is("before", x.before(0, 6, 0), 2520);
        due.is("foremost", x.foremost(0), 0);
        due.is("ask", x.ask(0), 1);
        // 1234 = 1 * 720 + 4 * 120 + 1 * 24 + 1 * 6 + 2 * 2 + 0 * 1
        int[] order = {1, 5, 2, 3, 6, 0, 4};
        for (int at = 0; at < 7; at++) {
            due.is("order 1234 at " + at, x.order(0, 1234, at), order[at]);
        }
        due.is("order 5040", x.order(0, 5040, 0), NONE);
    }

    /** a before b and c, both before d. */
    private void diamond() {
        AbsentLords x = Due.county(FOUR);
        x.tell(0, 1);
        x.tell(0, 2);
        x.tell(1, 3);
        x.tell(2, 3);
        int[] orders = {24, 12, 8, 3, 2};
        for (int k = 0; k <= 4; k++) {
            due.is("orders by " + k, x.orders(k), orders[k]);
        }
        int[] first = {0, 1, 1, 3};
        int[] last = {0, 2, 2, 3};
        int[] sum = {0, 3, 3, 6};
        int[] ahead = {0, 1, 1, 7};
        for (int person = 0; person < 4; person++) {
            due.is("first of " + person, x.first(4, person), first[person]);
            due.is("last of " + person, x.last(4, person), last[person]);
            due.is("sum of " + person, x.sum(4, person), sum[person]);
            due.is("ahead of " + person, x.ahead(4, person), ahead[person]);
            for (int at = 0; at < 4; at++) {
                int want = at < first[person] || at > last[person] ? 0 : person == 0 || person == 3 ? 2 : 1;
                due.is("placed " + person + " at " + at, x.placed(4, person, at), want);
            }
        }
        due.is("b before c", x.before(4, 1, 2), 1);
        due.is("a before d", x.before(4, 0, 3), 2);
        due.is("d before a", x.before(4, 3, 0), 0);
        due.is("foremost", x.foremost(4), 0);
        due.is("ask", x.ask(4), 12);
        int[][] both = {{0, 1, 2, 3}, {0, 2, 1, 3}};
        for (int i = 0; i < 2; i++) {
            for (int at = 0; at < 4; at++) {
                due.is("order " + i, x.order(4, i, at), both[i][at]);
            }
        }
        due.is("by 3: first of c", x.first(3, 2), 1);
        due.is("by 3: last of c", x.last(3, 2), 3);
        due.is("by 3: sum of c", x.sum(3, 2), 6);
        due.is("by 3: ahead of d", x.ahead(3, 3), 3);
    }

    private void chain() {
        AbsentLords x = Due.county(SEVEN);
        int[] chain = {3, 6, 0, 5, 1, 4, 2};
        for (int i = 5; i >= 0; i--) {
            x.tell(chain[i], chain[i + 1]);
        }
        due.is("one order", x.orders(6), 1);
        for (int i = 0; i < 7; i++) {
            due.is("order", x.order(6, 0, i), chain[i]);
            due.is("first", x.first(6, chain[i]), i);
            due.is("last", x.last(6, chain[i]), i);
        }
        due.is("ahead of the last", x.ahead(6, 2), 127 - 4);
        due.is("foremost", x.foremost(6), 3);
        due.is("ask, all alike", x.ask(6), 1);
        due.is("order 1", x.order(6, 1, 0), NONE);
        // Without the last letter 3 may be anywhere: next to 5 or to 1 four orders are left, at worst.
        due.is("by 5", x.orders(5), 7);
        due.is("foremost by 5", x.foremost(5), 6);
        due.is("ask by 5", x.ask(5), 13);
    }

    private void notSo() {
        AbsentLords x = Due.county(FOUR);
        x.tell(0, 1);
        x.tell(1, 2);
        x.tell(2, 0);
        due.is("orders by 2", x.orders(2), 4);
        due.is("no orders", x.orders(3), 0);
        for (int person = 0; person < 4; person++) {
            due.is("first", x.first(3, person), -2);
            due.is("last", x.last(3, person), -2);
            due.is("ahead", x.ahead(3, person), -2);
            due.is("sum", x.sum(3, person), 0);
            due.is("placed", x.placed(3, person, 0), 0);
        }
        due.is("before", x.before(3, 0, 3), 0);
        due.is("foremost", x.foremost(3), -2);
        due.is("ask", x.ask(3), -2);
        due.is("order", x.order(3, 0, 0), NONE);
        due.is("first of nobody", x.first(3, 4), NONE);
        due.is("last of nobody", x.last(3, 4), NONE);
        due.is("ahead of nobody", x.ahead(3, 4), NONE);
        AbsentLords y = Due.county("person a 1; person b 1;");
        y.tell(0, 1);
        y.tell(1, 0);
        due.is("two: no orders", y.orders(2), 0);
    }

    private void ask() {
        AbsentLords x = Due.county(FOUR);
        x.tell(0, 1);
        // a before b: c and d are even; of the others none is.
        due.is("c and d", x.ask(1), 23);
        x.tell(2, 3);
        // Of 6 orders: a before c in 3, a before d in 5.
        due.is("a and c", x.ask(2), 2);
        due.is("a before c", x.before(2, 0, 2), 3);
        due.is("a before d", x.before(2, 0, 3), 5);
    }

    /** Each asked with nothing asked for ahead of it but by fewer letters. */
    private void eachByItself() {
        for (int asked = 0; asked < 9; asked++) {
            AbsentLords x = Due.county(FOUR);
            x.tell(3, 0);
            x.tell(2, 3);
            due.is("by 0", x.orders(0), 24);
            switch (asked) {
                case 0:
                    due.is("first", x.first(2, 0), 2);
                    break;
                case 1:
                    due.is("last", x.last(2, 2), 1);
                    break;
                case 2:
                    due.is("placed", x.placed(2, 3, 1), 2);
                    break;
                case 3:
                    due.is("before", x.before(2, 1, 3), 2);
                    break;
                case 4:
                    due.is("sum", x.sum(2, 2), 1);
                    break;
                case 5:
                    due.is("ahead", x.ahead(2, 0), 12);
                    break;
                case 6:
                    due.is("foremost", x.foremost(2), 2);
                    break;
                case 7:
                    due.is("ask", x.ask(2), 13);
                    break;
                default:
                    due.is("order", x.order(2, 0, 0), 1);
                    break;
            }
            due.is("by 0 again", x.orders(0), 24);
            due.is("by 1 then", x.orders(1), 12);
        }
    }

    private void wrongOnes() {
        AbsentLords x = Due.county(FOUR);
        x.tell(0, 1);
        for (int k : new int[] {-1, 2, 20, 21, Integer.MAX_VALUE, Integer.MIN_VALUE}) {
            due.is("orders", x.orders(k), NONE);
            due.is("first", x.first(k, 0), NONE);
            due.is("last", x.last(k, 0), NONE);
            due.is("placed", x.placed(k, 0, 0), NONE);
            due.is("before", x.before(k, 0, 1), NONE);
            due.is("sum", x.sum(k, 0), NONE);
            due.is("ahead", x.ahead(k, 0), NONE);
            due.is("foremost", x.foremost(k), NONE);
            due.is("ask", x.ask(k), NONE);
            due.is("order", x.order(k, 0, 0), NONE);
        }
        for (int nobody : NOBODY) {
            due.is("first of " + nobody, x.first(1, nobody), NONE);
            due.is("last of " + nobody, x.last(1, nobody), NONE);
            due.is("placed of " + nobody, x.placed(1, nobody, 0), NONE);
            due.is("placed at " + nobody, x.placed(1, 0, nobody), NONE);
            due.is("before of " + nobody, x.before(1, nobody, 0), NONE);
            due.is("before, other " + nobody, x.before(1, 0, nobody), NONE);
            due.is("sum of " + nobody, x.sum(1, nobody), NONE);
            due.is("ahead of " + nobody, x.ahead(1, nobody), NONE);
            due.is("order at " + nobody, x.order(1, 0, nobody), NONE);
        }
        due.is("before, one and the same", x.before(1, 2, 2), NONE);
        for (int i : new int[] {-1, 12, Integer.MAX_VALUE, Integer.MIN_VALUE}) {
            due.is("order " + i, x.order(1, i, 0), NONE);
        }
        due.is("order 11", x.order(1, 11, 0), 3);
    }
}
