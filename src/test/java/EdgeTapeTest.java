/** Each sentence of promises 1 to 5 that names an edge: a new object, feed, back, read, place. */
public final class EdgeTapeTest {
    private static final int NONE = AbsentLords.NONE;
    private static final int BLANKS = 0x20202020;
    private static final int MOST = 2000;

    private final Due due = new Due();

    public static void main(String[] args) {
        EdgeTapeTest test = new EdgeTapeTest();
        test.newObject();
        test.feedToTheEnd();
        test.feedTooMany();
        test.feedAnyWords();
        test.backToNothing();
        test.backTooMany();
        test.whichBytesGo();
        test.emptyThen();
        test.numbersOfFaults();
        test.faultsChangeNothing();
        test.inPlaceOfTheOneAhead();
        test.lawsOfTheOneAhead();
        test.fullTextsBehindOneAnother();
        test.emptyTape();
        test.places();
        test.latestPlace();
        test.due.end();
    }

    /** An object whose tape has that many blanks. */
    private static AbsentLords taped(int bytes) {
        AbsentLords x = new AbsentLords();
        Due.feed(x, Due.bytes(" ".repeat(bytes)));
        return x;
    }

    private void newObject() {
        due.about("Promise 1: No HOUSES, no PEOPLE.");
        for (int what = 0; what <= 16; what++) {
            due.is("count(" + what + ")", new AbsentLords().count(what), 0);
        }
        Seen.alike(due, "as with a text of nothing:", AbsentLords::new, () -> Due.county(""));
        AbsentLords x = new AbsentLords();
        for (int what = 0; what <= 8; what++) {
            due.is("house(0, " + what + ")", x.house(0, what), NONE);
            due.is("person(0, " + what + ")", x.person(0, what), NONE);
        }
        due.is("place()", x.place(), NONE);
        due.is("years(40)", x.years(40), 40);
        due.is("hold(2)", x.hold(2), true);
        due.is("undo()", x.undo(), true);
        due.is("restore(2)", x.restore(2), true);
        due.is("the year", x.count(2), 40);
    }

    private void feedToTheEnd() {
        due.about("Promise 2: Twenty bytes .. come behind the tape: how many it has.");
        AbsentLords x = new AbsentLords();
        for (int bytes = 20; bytes <= MOST; bytes += 20) {
            due.is("feed", x.feed(BLANKS, BLANKS, BLANKS, BLANKS, BLANKS), bytes);
            due.is("count(8)", x.count(8), bytes);
        }
        due.is("read", x.read(), 0);
        due.is("from the start again", x.feed(BLANKS, BLANKS, BLANKS, BLANKS, BLANKS), 20);
    }

    private void feedTooMany() {
        due.about("Promise 2: NONE, and nothing comes, if it would have more than 2,000.");
        due.is("at 1979", taped(1979).feed(BLANKS, BLANKS, BLANKS, BLANKS, BLANKS), 1999);
        due.is("at 1980", taped(1980).feed(BLANKS, BLANKS, BLANKS, BLANKS, BLANKS), 2000);
        for (int bytes = 1981; bytes <= MOST; bytes++) {
            AbsentLords x = taped(bytes);
            due.is("at " + bytes, x.feed(0, 0, 0, 0, 0), NONE);
            due.is("bytes then", x.count(8), bytes);
            due.is("again", x.feed(0, 0, 0, 0, 0), NONE);
            due.is("none came", x.read(), 0);
        }
        Seen.unchanged(due, "feed at 1981", () -> taped(1981), x -> x.feed(0, 0, 0, 0, 0));
        Seen.unchanged(due, "feed at 2000", () -> taped(2000), x -> x.feed(0, 0, 0, 0, 0));
        // What went back makes room.
        AbsentLords x = taped(2000);
        due.is("back", x.back(20), 1980);
        due.is("feed", x.feed(BLANKS, BLANKS, BLANKS, BLANKS, BLANKS), 2000);
    }

    private void feedAnyWords() {
        due.about("Promise 2: the highest of a first");
        int[] edges = {Integer.MIN_VALUE, Integer.MAX_VALUE, -1, 0, 1, 255, 256, 0x80808080, 0xff000000};
        for (int word : edges) {
            for (int i = 0; i < 5; i++) {
                int[] words = {BLANKS, BLANKS, BLANKS, BLANKS, BLANKS};
                words[i] = word;
                AbsentLords x = new AbsentLords();
                due.is("feed", x.feed(words[0], words[1], words[2], words[3], words[4]), 20);
                due.is("read of " + word, x.read(), 1);
                due.is("place of " + word, x.place(), 4 * i);
            }
        }
        for (int at = 0; at < 4; at++) {
            AbsentLords x = new AbsentLords();
            x.feed(BLANKS, BLANKS, BLANKS, BLANKS, BLANKS & ~(0xff << 8 * at) | '.' << 8 * at);
            x.read();
            due.is("byte " + at + " from below", x.place(), 19 - at);
        }
    }

    private void backToNothing() {
        due.about("Promise 3: The last n bytes of the tape go: how many it has.");
        due.is("0 of nothing", new AbsentLords().back(0), 0);
        for (int bytes : new int[] {1, 19, 20, 21, 1999, 2000}) {
            due.is("0 of " + bytes, taped(bytes).back(0), bytes);
            due.is("1 of " + bytes, taped(bytes).back(1), bytes - 1);
            due.is("all but one of " + bytes, taped(bytes).back(bytes - 1), 1);
            due.is("all of " + bytes, taped(bytes).back(bytes), 0);
        }
    }

    private void backTooMany() {
        due.about("Promise 3: NONE, and nothing goes, if it has not so many, or n is below 0.");
        for (int bytes : new int[] {0, 1, 20, 1999, 2000}) {
            for (int n : new int[] {bytes + 1, -1, -2, -bytes - 1, Integer.MIN_VALUE, Integer.MAX_VALUE}) {
                due.is("back(" + n + ") of " + bytes, taped(bytes).back(n), NONE);
                AbsentLords x = taped(bytes);
                x.back(n);
                due.is("bytes then", x.count(8), bytes);
            }
        }
        for (int n : new int[] {20, 21, -1, Integer.MIN_VALUE, Integer.MAX_VALUE}) {
            Seen.unchanged(due, "back(" + n + ")", Busy::county, x -> x.back(n));
        }
        Seen.unchanged(due, "back(0)", Busy::county, x -> x.back(0));
    }

    private void whichBytesGo() {
        due.about("Promise 3: The last n bytes of the tape go");
        AbsentLords x = new AbsentLords();
        Due.feed(x, Due.bytes("house a 1;house b 2;"));
        x.back(11);
        due.is("the ; went", x.read(), 1);
        due.is("at", x.place(), 9);
        Due.feed(x, Due.bytes("house a 1;house b 2;"));
        x.back(10);
        Due.feed(x, Due.bytes("house c 3;"));
        due.is("others came there", x.read(), 0);
        due.is("HOUSES", x.count(0), 2);
        due.is("RENT", x.house(1, 0), 3);
    }

    private void emptyThen() {
        due.about("Promise 4: The tape, which is empty then, is read");
        for (String text : new String[] {"house a 1;", ".", " ", " ".repeat(2000), "house a 100;"}) {
            AbsentLords x = new AbsentLords();
            Due.read(x, text);
            due.is("bytes", x.count(8), 0);
            due.is("none to take back", x.back(1), NONE);
            due.is("feed", x.feed(BLANKS, BLANKS, BLANKS, BLANKS, BLANKS), 20);
            due.is("nothing of it is left", x.read(), 0);
            due.is("HOUSES", x.count(0), 0);
        }
        // A short text behind a long one: none of the long one's bytes, TOKENS, NAMES is seen.
        AbsentLords x = new AbsentLords();
        Due.read(x, Busy.TEXT);
        due.is("short", Due.read(x, "seed"), 1);
        due.is("its end", x.place(), 4);
        Due.read(x, Busy.TEXT);
        due.is("shorter", Due.read(x, "away a 1;"), 4);
        due.is("at the NAME", x.place(), 5);
    }

    private void numbersOfFaults() {
        due.about("Promise 4: 0, or the number of its FAULT");
        String[] texts = {"", "house", "goes = ((((((((1))))))));", "house a 1; house a 1;", "away a 1;", "house a 100;"};
        for (int number = 0; number <= 5; number++) {
            due.is("read of " + texts[number], Due.read(new AbsentLords(), texts[number]), number);
            due.is("read of " + texts[number] + " later", Due.read(Busy.withoutTape(), texts[number]), number);
        }
    }

    private void faultsChangeNothing() {
        due.about("A text with a FAULT changes nothing but the tape");
        String[] texts = {"house z 9; person y 9; goes = 9; seed 9; .", "house z 9; seed 7;" + Faults.many(7, "away y 1;") + "away y 1;",
            "person z 9; goes = 77; person z 9;", "dies = 100; house z 9; right z z;", "rents = 3; seed 44; house z 100;",
            "house", Faults.many(6, "house h# 1;"), "person a 1; person a 2;", "away z 1;", "person a 1; away a 100;"};
        for (int i = 0; i < texts.length; i++) {
            String text = texts[i];
            due.is("read of " + text, Due.read(Busy.withoutTape(), text), i % 5 + 1);
            Seen.unchanged(due, "read of " + text, Busy::withoutTape, x -> Due.read(x, text));
            Seen.unchanged(due, "twice read of " + text, Busy::withoutTape, x -> {
                Due.read(x, text);
                Due.read(x, text);
            });
        }
    }

    private void inPlaceOfTheOneAhead() {
        due.about("else it is in place of the one ahead: year 0, all alive, nothing got; nothing can be undone, nothing"
                + " is TOLD, SLOTS hold nothing");
        String[] texts = {"", "house z 3;", "person z 7;", "house x 1; person y 2; right y x; away y 4;", Busy.TEXT,
            "house x 9; person y 2; goes = 50; seed 9999;", "seed 5;", "house x 9; person y 2; right y x;",
            Faults.many(5, "house h# 1;") + Faults.many(7, "person p# 1;"), "person y 2; away y 4; comes = 7; dies = 8;"};
        for (String text : texts) {
            Seen.alike(due, "read of " + text, () -> {
                AbsentLords x = Busy.withoutTape();
                Due.read(x, text);
                return x;
            }, () -> Due.county(text));
            Seen.alike(due, "read behind two others, of " + text, () -> {
                AbsentLords x = Due.county(Busy.TEXT);
                Due.read(x, Busy.TEXT);
                Due.read(x, text);
                return x;
            }, () -> Due.county(text));
            Seen.alike(due, "read behind one with a FAULT, of " + text, () -> {
                AbsentLords x = Due.county(Busy.TEXT);
                Due.read(x, Busy.TEXT + "away g 100;");
                Due.read(x, text);
                return x;
            }, () -> Due.county(text));
        }
        AbsentLords x = Busy.withoutTape();
        Due.read(x, Busy.TEXT);
        int[] zeros = {2, 5, 7, 9, 10, 11};
        for (int what : zeros) {
            due.is("count(" + what + ")", x.count(what), 0);
        }
        due.is("undo", x.undo(), false);
        for (int slot = 0; slot < 3; slot++) {
            due.is("restore " + slot, x.restore(slot), false);
        }
        due.is("orders by 1", x.orders(1), NONE);
        due.is("the first letter is number 0 again", x.tell(0, 1), 0);
    }

    private void lawsOfTheOneAhead() {
        due.about("it is in place of the one ahead: LAWS that it does not tell are not those of that one");
        String[] laws = {"goes", "comes", "dies", "rents"};
        String county = "house h 9; person a 1; right a h; away a 1;";
        for (int told = 0; told < 4; told++) {
            for (int ahead = 0; ahead < 4; ahead++) {
                AbsentLords x = Due.county(county + laws[ahead] + " = 50;");
                due.is("read", Due.read(x, county + laws[ahead] + " = 50;"), 0);
                due.is("read", Due.read(x, county + laws[told] + " = 60;"), 0);
                for (int law = 0; law < 4; law++) {
                    int want = law == told ? 60 : law == 3 ? 9 : 0;
                    due.is(laws[law] + " behind " + laws[ahead], law == 3 ? x.house(0, 3) : x.person(0, 6 + law), want);
                }
            }
        }
    }

    /** As many TOKENS, RIGHTS, AWAY as there can be, again and again: each text has all the room. */
    private void fullTextsBehindOneAnother() {
        due.about("it is in place of the one ahead: with all the room that a text has");
        String sorts = Faults.many(5, "house h# 1;") + Faults.many(7, "person p# 1;") + Faults.many(7, "right p# ha;")
                + Faults.many(7, "right p# hb;") + Faults.many(6, "right p# hc;") + Faults.many(7, "away pg 5;");
        AbsentLords x = new AbsentLords();
        for (int i = 0; i < 6; i++) {
            due.is("all sorts", Due.read(x, sorts), 0);
            due.is("RIGHTS", x.count(12), 20);
        }
        AbsentLords y = new AbsentLords();
        for (int i = 0; i < 8; i++) {
            due.is("all TOKENS", Due.read(y, "person a 1;goes=" + "1+".repeat(196) + i + ";"), 0);
            due.is("GOES", y.person(0, 6), 100);
            due.is("COMES", y.person(0, 7), 0);
            due.is("a short one", Due.read(y, "person a 1;dies=" + i + ";"), 0);
            due.is("DIES", y.person(0, 8), i);
            due.is("GOES then", y.person(0, 6), 0);
        }
    }

    private void emptyTape() {
        due.about("text: {TELL}");
        // A text of nothing is one, too: it is in place of what was there.
        AbsentLords x = Busy.withoutTape();
        due.is("read of nothing", x.read(), 0);
        due.is("no place", x.place(), NONE);
        due.is("no HOUSES", x.count(0), 0);
        due.is("no PEOPLE", x.count(1), 0);
        due.is("year 0", x.count(2), 0);
        Seen.alike(due, "read of nothing:", () -> {
            AbsentLords y = Busy.withoutTape();
            y.read();
            return y;
        }, AbsentLords::new);
    }

    private void places() {
        due.about("Promise 5: The byte of the latest read()'s FAULT; NONE without.");
        AbsentLords x = new AbsentLords();
        due.is("no read", x.place(), NONE);
        x.feed(0, 0, 0, 0, 0);
        due.is("not read yet", x.place(), NONE);
        x.read();
        due.is("the first byte", x.place(), 0);
        due.is("asked again", x.place(), 0);
        x.read();
        due.is("without", x.place(), NONE);
        Due.read(x, " ".repeat(1999) + ".");
        due.is("the last byte", x.place(), 1999);
        Due.read(x, " ".repeat(1995) + "house");
        due.is("the text's end", x.place(), 2000);
    }

    private void latestPlace() {
        due.about("Promise 5: the latest read()'s");
        AbsentLords x = Due.county("house h 1; person a 1; right a h;");
        Due.read(x, "house h 1; .");
        due.is("its FAULT", x.place(), 11);
        x.feed(0, 0, 0, 0, 0);
        x.back(20);
        x.send(0);
        x.years(1);
        x.undo();
        x.hold(0);
        x.restore(0);
        x.tell(0, 0);
        x.forget();
        due.is("whatever was done since", x.place(), 11);
        Due.read(x, "seed");
        due.is("another", x.place(), 4);
        Due.read(x, "house h 1;");
        due.is("none", x.place(), NONE);
    }
}
