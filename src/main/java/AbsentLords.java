/** A county where rent is owed to whoever has been gone the longest. */
public final class AbsentLords {
    public static final int NONE = -1;

    private static final int NOBODY = -2;
    private static final int NO_LOSS = -100000;

    private static final int MOST_BYTES = 2000;
    private static final int FED_BYTES = 20;
    private static final int MOST_HOUSES = 5;
    private static final int MOST_PEOPLE = 7;
    private static final int MOST_YEARS = 40;
    private static final int MOST_SEEDS = 20;
    private static final int SLOTS = 3;

    // The choices of a DUEL are these bits.
    private static final int FIRST_GOES = 1;
    private static final int OTHER_GOES = 2;
    private static final int CHOICES = 4;

    private static final int GOES = 0;
    private static final int COMES = 1;
    private static final int DIES = 2;
    private static final int RENTS = 3;
    private static final int LAWS = 4;

    private final byte[] tape = new byte[MOST_BYTES];
    private int taped = 0;
    private final Reader reader = new Reader();
    private Text text = new Text();

    private final State now = new State();
    private final State trial = new State();
    private final State waiting = new State();
    private final int[] firstGains = new int[CHOICES];
    private final int[] otherGains = new int[CHOICES];
    private final Past past = new Past();
    private final State[] slots = new State[SLOTS];
    private int heldSlots = 0;

    private final Court court = new Court();
    private final Course course = new Course();
    private final Letters letters = new Letters();

    public AbsentLords() {
        for (int slot = 0; slot < SLOTS; slot++) {
            slots[slot] = new State();
        }
    }

    // ---- the tape

    public int feed(int a, int b, int c, int d, int e) {
        if (taped + FED_BYTES > MOST_BYTES) {
            return NONE;
        }
        putBytes(a);
        putBytes(b);
        putBytes(c);
        putBytes(d);
        putBytes(e);
        return taped;
    }

    private void putBytes(int word) {
        for (int shift = 24; shift >= 0 && taped < MOST_BYTES; shift -= 8) {
            tape[taped] = (byte) (word >>> shift);
            taped++;
        }
    }

    public int back(int n) {
        if (n < 0 || n > taped) {
            return NONE;
        }
        taped -= n;
        return taped;
    }

    public int read() {
        int fault = reader.readTape(tape, taped);
        taped = 0;
        if (fault == 0) {
            text = reader.exchange(text);
            now.begin(text);
            past.clear();
            letters.clear();
            heldSlots = 0;
        }
        return fault;
    }

    public int place() {
        return reader.faultPlace;
    }

    // ---- what is so

    public int house(int house, int what) {
        if (!isHouse(house)) {
            return NONE;
        }
        switch (what) {
            case 0:
                return text.rents[house];
            case 1:
                return now.landlordOf(house);
            case 2:
                return now.holders[house];
            case 3:
                court.look(text, now);
                return court.rentsOf(text, now, house);
            default:
                return NONE;
        }
    }

    public int person(int person, int what) {
        if (!isPerson(person)) {
            return NONE;
        }
        switch (what) {
            case 0:
                return now.ages[person];
            case 1:
                return now.standingOf(person);
            case 2:
                return now.gone[person];
            case 3:
                return now.got[person];
            case 4:
                return rightsOf(person);
            case 5:
                return ownHouses(person);
            case 6:
                return chanceNow(GOES, person);
            case 7:
                return chanceNow(COMES, person);
            case 8:
                return chanceNow(DIES, person);
            default:
                return NONE;
        }
    }

    private int rightsOf(int person) {
        int bits = 0;
        for (int house = 0; house < text.houses; house++) {
            if (has(now.holders[house], person)) {
                bits |= 1 << house;
            }
        }
        return bits;
    }

    private int ownHouses(int person) {
        int bits = 0;
        for (int house = 0; house < text.houses; house++) {
            if (now.landlordOf(house) == person) {
                bits |= 1 << house;
            }
        }
        return bits;
    }

    private int chanceNow(int law, int person) {
        court.look(text, now);
        return court.chanceOf(text, now, law, person);
    }

    // ---- what is done

    public boolean send(int person) {
        if (!isPerson(person) || !has(now.home, person)) {
            return false;
        }
        past.keep(now);
        now.goAway(person);
        return true;
    }

    public boolean call(int person) {
        if (!isPerson(person) || !has(now.away, person)) {
            return false;
        }
        past.keep(now);
        now.comeHome(person);
        return true;
    }

    public boolean bury(int person) {
        if (!isPerson(person) || !has(now.alive(), person)) {
            return false;
        }
        past.keep(now);
        now.die(person);
        return true;
    }

    public boolean give(int person, int house, boolean given) {
        if (!isPerson(person) || !isHouse(house) || has(now.holders[house], person) == given) {
            return false;
        }
        past.keep(now);
        now.holders[house] ^= 1 << person;
        return true;
    }

    public int years(int n) {
        if (!areYears(n, 0)) {
            return NONE;
        }
        if (n > 0) {
            past.keep(now);
            course.goOn(text, now, n, text.seed);
        }
        return now.year;
    }

    public boolean undo() {
        return past.takeBack(now);
    }

    // ---- what would be, without chances

    public int heir(int house) {
        if (!isHouse(house)) {
            return NONE;
        }
        return now.heirOf(house);
    }

    public int race(int house) {
        if (!isHouse(house)) {
            return NONE;
        }
        int landlord = now.landlordOf(house);
        int heir = now.heirOf(house);
        if (landlord < 0 || heir < 0) {
            return NOBODY;
        }
        return now.gone[landlord] - now.gone[heir];
    }

    public int gain(int person, int n) {
        if (!isPerson(person) || !areYears(n, 0)) {
            return NONE;
        }
        trial.copyFrom(now);
        return gainOnTrial(person, n);
    }

    /** What a PERSON gets while n YEARS without chances go by from the trial's state on. */
    private int gainOnTrial(int person, int n) {
        course.standStill(text, trial, n);
        return trial.got[person] - now.got[person];
    }

    public int best(int person, int n, int what) {
        if (!isPerson(person) || !has(now.home, person) || !areYears(n, 1) || what < 0 || what > 1) {
            return NONE;
        }
        int behind = 0;
        int most = NONE;
        waiting.copyFrom(now);
        for (int wait = 0; wait < n; wait++) {
            trial.copyFrom(waiting);
            trial.goAway(person);
            int gained = gainOnTrial(person, n - wait);
            if (wait == 0 || gained > most) {
                behind = wait;
                most = gained;
            }
            course.standStill(text, waiting, 1);
        }
        return what == 0 ? behind : most;
    }

    public int loss(int person, int n) {
        if (!isPerson(person) || !has(now.away, person) || !areYears(n, 0)) {
            return NO_LOSS;
        }
        trial.copyFrom(now);
        int without = gainOfOthers(person, n);
        trial.copyFrom(now);
        trial.comeHome(person);
        return gainOfOthers(person, n) - without;
    }

    private int gainOfOthers(int person, int n) {
        course.standStill(text, trial, n);
        int gained = 0;
        for (int other = 0; other < text.people; other++) {
            if (other != person) {
                gained += trial.got[other] - now.got[other];
            }
        }
        return gained;
    }

    public int duel(int person, int other, int n, int choice, int what) {
        if (!canDuel(person, other, n) || choice < 0 || choice >= CHOICES || what < 0 || what > 1) {
            return NONE;
        }
        playDuel(person, other, n, choice);
        return what == 0 ? firstGains[choice] : otherGains[choice];
    }

    public int rest(int person, int other, int n) {
        if (!canDuel(person, other, n)) {
            return NONE;
        }
        for (int choice = 0; choice < CHOICES; choice++) {
            playDuel(person, other, n, choice);
        }
        int bits = 0;
        for (int choice = 0; choice < CHOICES; choice++) {
            if (firstGains[choice ^ FIRST_GOES] <= firstGains[choice]
                    && otherGains[choice ^ OTHER_GOES] <= otherGains[choice]) {
                bits |= 1 << choice;
            }
        }
        return bits;
    }

    private boolean canDuel(int person, int other, int n) {
        return isPerson(person) && isPerson(other) && person != other
                && has(now.home, person) && has(now.home, other) && areYears(n, 1);
    }

    private void playDuel(int person, int other, int n, int choice) {
        trial.copyFrom(now);
        if ((choice & FIRST_GOES) != 0) {
            trial.goAway(person);
        }
        if ((choice & OTHER_GOES) != 0) {
            trial.goAway(other);
        }
        course.standStill(text, trial, n);
        firstGains[choice] = trial.got[person] - now.got[person];
        otherGains[choice] = trial.got[other] - now.got[other];
    }

    // ---- who, of all

    public int fill(int what) {
        return manyOrWho(fewestFor(now.home, now.away), what);
    }

    public int agents(int what) {
        return manyOrWho(fewestFor(now.alive(), 0), what);
    }

    private static int manyOrWho(int bits, int what) {
        switch (what) {
            case 0:
                return Integer.bitCount(bits);
            case 1:
                return bits;
            default:
                return NONE;
        }
    }

    /** The fewest of some PEOPLE who, with those that are there, serve all HOUSES that the living can. */
    private int fewestFor(int from, int there) {
        int fewest = from;
        // By rising bits: of as many the least come first.
        for (int bits = 0; bits < 1 << text.people; bits++) {
            boolean fewer = Integer.bitCount(bits) < Integer.bitCount(fewest);
            if ((bits & ~from) == 0 && fewer && serveAll(bits | there)) {
                fewest = bits;
            }
        }
        return fewest;
    }

    private boolean serveAll(int servants) {
        for (int house = 0; house < text.houses; house++) {
            int holders = now.holders[house];
            if ((holders & now.alive()) != 0 && (holders & servants) == 0) {
                return false;
            }
        }
        return true;
    }

    public int richest(int what) {
        if (what < 0 || what > 1) {
            return NONE;
        }
        if (text.people == 0) {
            return NOBODY;
        }
        int who = 0;
        for (int person = 1; person < text.people; person++) {
            if (now.got[person] > now.got[who]) {
                who = person;
            }
        }
        return what == 0 ? who : now.got[who];
    }

    public int eldest(int what) {
        if (what < 0 || what > 1) {
            return NONE;
        }
        int who = NOBODY;
        int oldest = NOBODY;
        for (int person = 0; person < text.people; person++) {
            int age = now.ages[person];
            if (has(now.alive(), person) && (who == NOBODY || age > oldest)) {
                who = person;
                oldest = age;
            }
        }
        return what == 0 ? who : oldest;
    }

    public int lords(int i) {
        if (i == NONE) {
            return mostLords(0, 0);
        }
        if (!isHouse(i)) {
            return NONE;
        }
        int used = 0;
        int lord = NOBODY;
        for (int house = 0; house <= i; house++) {
            lord = lordGiven(house, used);
            if (lord >= 0) {
                used |= 1 << lord;
            }
        }
        return lord;
    }

    /** The lowest PERSON not used yet with whom no fewer HOUSES get one than can. */
    private int lordGiven(int house, int used) {
        int most = mostLords(house, used);
        int suited = now.holders[house] & now.away & ~used;
        for (int person = 0; person < text.people; person++) {
            if (has(suited, person) && 1 + mostLords(house + 1, used | 1 << person) == most) {
                return person;
            }
        }
        return NOBODY;
    }

    /**
     * How many HOUSES from one on can have a PERSON each. As many stay without as, of some set of them,
     * there are more than PEOPLE suited to any of that set: the worst set tells it, with no search.
     */
    private int mostLords(int from, int used) {
        int worst = 0;
        for (int set = 0; set < 1 << text.houses; set++) {
            if ((set & (1 << from) - 1) == 0) {
                worst = Math.max(worst, Integer.bitCount(set) - Integer.bitCount(suitedTo(set) & ~used));
            }
        }
        return text.houses - from - worst;
    }

    private int suitedTo(int set) {
        int suited = 0;
        for (int house = 0; house < text.houses; house++) {
            if (has(set, house)) {
                suited |= now.holders[house] & now.away;
            }
        }
        return suited;
    }

    public int bound(int person) {
        if (!isPerson(person) || !has(now.alive(), person)) {
            return NONE;
        }
        int bits = 1 << person;
        // Each round but the last binds one PERSON more at least.
        for (int round = 0; round < MOST_PEOPLE; round++) {
            for (int house = 0; house < text.houses; house++) {
                int holders = now.holders[house] & now.alive();
                if ((holders & bits) != 0) {
                    bits |= holders;
                }
            }
        }
        return bits;
    }

    public int idle() {
        int bits = 0;
        for (int house = 0; house < text.houses; house++) {
            if (now.landlordOf(house) < 0) {
                bits |= 1 << house;
            }
        }
        return bits;
    }

    public int share(int person) {
        if (!isPerson(person)) {
            return NONE;
        }
        int all = allRights();
        return all == 0 ? 0 : Integer.bitCount(rightsOf(person)) * 1000 / all;
    }

    private int allRights() {
        int all = 0;
        for (int house = 0; house < text.houses; house++) {
            all += Integer.bitCount(now.holders[house]);
        }
        return all;
    }

    // ---- what will be, with all chances

    public int lordIn(int house, int n) {
        if (!isHouse(house) || !areYears(n, 0)) {
            return NONE;
        }
        foresee(n, text.seed);
        return trial.landlordOf(house);
    }

    public int then(int n, int what) {
        if (!areYears(n, 0)) {
            return NONE;
        }
        foresee(n, text.seed);
        return trial.whoStands(text, what);
    }

    public int gotIn(int person, int n) {
        if (!isPerson(person) || !areYears(n, 0)) {
            return NONE;
        }
        foresee(n, text.seed);
        return trial.got[person];
    }

    public int year(int person, int n, int s) {
        if (!isPerson(person) || !areYears(n, 0) || s < 1 || s > MOST_SEEDS) {
            return NONE;
        }
        int times = 0;
        for (int seed = 0; seed < s; seed++) {
            foresee(n, text.seed + seed);
            if (has(trial.allLandlords(text), person)) {
                times++;
            }
        }
        return times;
    }

    private void foresee(int n, int seed) {
        trial.copyFrom(now);
        course.goOn(text, trial, n, seed);
    }

    // ---- letters

    public int tell(int person, int other) {
        if (!isPerson(person) || !isPerson(other) || person == other) {
            return NONE;
        }
        return letters.add(person, other);
    }

    public int forget() {
        int told = letters.told;
        letters.clear();
        return told;
    }

    public int orders(int k) {
        if (!isKnown(k)) {
            return NONE;
        }
        letters.weigh(text.people, k);
        return letters.all();
    }

    public int first(int k, int person) {
        if (!isKnown(k) || !isPerson(person)) {
            return NONE;
        }
        letters.weigh(text.people, k);
        for (int at = 0; at < text.people; at++) {
            if (letters.timesAt(person, at) > 0) {
                return at;
            }
        }
        return NOBODY;
    }

    public int last(int k, int person) {
        if (!isKnown(k) || !isPerson(person)) {
            return NONE;
        }
        letters.weigh(text.people, k);
        for (int at = text.people - 1; at >= 0; at--) {
            if (letters.timesAt(person, at) > 0) {
                return at;
            }
        }
        return NOBODY;
    }

    public int placed(int k, int person, int at) {
        if (!isKnown(k) || !isPerson(person) || at < 0 || at >= text.people) {
            return NONE;
        }
        letters.weigh(text.people, k);
        return letters.timesAt(person, at);
    }

    public int before(int k, int person, int other) {
        if (!isKnown(k) || !isPerson(person) || !isPerson(other) || person == other) {
            return NONE;
        }
        letters.weigh(text.people, k);
        return letters.timesAhead(person, other);
    }

    public int sum(int k, int person) {
        if (!isKnown(k) || !isPerson(person)) {
            return NONE;
        }
        letters.weigh(text.people, k);
        int places = 0;
        for (int at = 0; at < text.people; at++) {
            places += at * letters.timesAt(person, at);
        }
        return places;
    }

    public int ahead(int k, int person) {
        if (!isKnown(k) || !isPerson(person)) {
            return NONE;
        }
        letters.weigh(text.people, k);
        if (letters.all() == 0) {
            return NOBODY;
        }
        int bits = 0;
        for (int other = 0; other < text.people; other++) {
            if (other != person && letters.timesAhead(other, person) == letters.all()) {
                bits |= 1 << other;
            }
        }
        return bits;
    }

    public int foremost(int k) {
        if (!isKnown(k)) {
            return NONE;
        }
        letters.weigh(text.people, k);
        int who = NOBODY;
        int most = 0;
        for (int person = 0; person < text.people; person++) {
            int times = letters.timesAt(person, 0);
            if (times > most) {
                who = person;
                most = times;
            }
        }
        return who;
    }

    public int ask(int k) {
        if (!isKnown(k)) {
            return NONE;
        }
        letters.weigh(text.people, k);
        int all = letters.all();
        int pair = NOBODY;
        int fewest = all;
        for (int person = 0; all > 0 && person < text.people; person++) {
            for (int other = person + 1; other < text.people; other++) {
                int times = letters.timesAhead(person, other);
                int worst = Math.max(times, all - times);
                if (pair == NOBODY || worst < fewest) {
                    pair = 10 * person + other;
                    fewest = worst;
                }
            }
        }
        return pair;
    }

    public int order(int k, int i, int at) {
        if (!isKnown(k) || at < 0 || at >= text.people || i < 0) {
            return NONE;
        }
        letters.weigh(text.people, k);
        return i >= letters.all() ? NONE : letters.whoIsAt(i, at);
    }

    // ---- slots and numbers

    public boolean hold(int slot) {
        if (slot < 0 || slot >= SLOTS) {
            return false;
        }
        slots[slot].copyFrom(now);
        heldSlots |= 1 << slot;
        return true;
    }

    public boolean restore(int slot) {
        if (slot < 0 || slot >= SLOTS || !has(heldSlots, slot)) {
            return false;
        }
        now.copyFrom(slots[slot]);
        past.clear();
        return true;
    }

    public int count(int what) {
        switch (what) {
            case 0:
                return text.houses;
            case 1:
                return text.people;
            case 2:
                return now.year;
            case 3:
            case 4:
            case 5:
                return now.whoStands(text, what - 3);
            case 6:
                return now.allLandlords(text);
            case 7:
                return allGot();
            case 8:
                return taped;
            case 9:
                return past.kept;
            case 10:
                return letters.told;
            case 11:
                return Integer.bitCount(heldSlots);
            case 12:
                return allRights();
            case 13:
                return allRent();
            case 14:
                return allGone();
            case 15:
                return allRents();
            case 16:
                return whoHasNoRight();
            default:
                return NONE;
        }
    }

    private int allGot() {
        int all = 0;
        for (int person = 0; person < text.people; person++) {
            all += now.got[person];
        }
        return all;
    }

    private int allRent() {
        int all = 0;
        for (int house = 0; house < text.houses; house++) {
            all += text.rents[house];
        }
        return all;
    }

    private int allGone() {
        int all = 0;
        for (int person = 0; person < text.people; person++) {
            all += now.gone[person];
        }
        return all;
    }

    private int allRents() {
        court.look(text, now);
        int all = 0;
        for (int house = 0; house < text.houses; house++) {
            all += court.rentsOf(text, now, house);
        }
        return all;
    }

    private int whoHasNoRight() {
        int bits = everybody(text.people);
        for (int house = 0; house < text.houses; house++) {
            bits &= ~now.holders[house];
        }
        return bits;
    }

    // ---- what there is

    private boolean isHouse(int house) {
        return house >= 0 && house < text.houses;
    }

    private boolean isPerson(int person) {
        return person >= 0 && person < text.people;
    }

    private boolean isKnown(int k) {
        return k >= 0 && k <= letters.told;
    }

    private static boolean areYears(int n, int fewest) {
        return n >= fewest && n <= MOST_YEARS;
    }

    private static boolean has(int bits, int one) {
        return (bits >> one & 1) != 0;
    }

    private static int everybody(int people) {
        return (1 << people) - 1;
    }

    /** What a text tells. */
    private static final class Text {
        // Words of code: 0 and more is an INT; a VAR is VARIABLE less its number; then these;
        // JUMP less a place goes on there, unless the one but last value is less than the last one.
        static final int VARIABLE = -1;
        static final int VARIABLES = 9;
        static final int PLUS = -11;
        static final int MINUS = -12;
        static final int TIMES = -13;
        static final int OVER = -14;
        static final int STOP = -15;
        static final int JUMP = -100;
        // A LAW has no more words than TOKENS; ahead of all stand the two for what is not told.
        static final int CODE = 404;

        int houses = 0;
        int people = 0;
        int seed = 0;
        final int[] rents = new int[MOST_HOUSES];
        final int[] holders = new int[MOST_HOUSES];
        final int[] ages = new int[MOST_PEOPLE];
        // For how many years they are AWAY at first, or NONE.
        final int[] absences = new int[MOST_PEOPLE];
        final int[] code = new int[CODE];
        final int[] starts = new int[LAWS];
        int written = 0;

        Text() {
            empty();
        }

        void empty() {
            houses = 0;
            people = 0;
            seed = 0;
            for (int house = 0; house < MOST_HOUSES; house++) {
                holders[house] = 0;
            }
            for (int person = 0; person < MOST_PEOPLE; person++) {
                absences[person] = NONE;
            }
            written = 0;
            starts[GOES] = written;
            starts[COMES] = written;
            starts[DIES] = written;
            write(0);
            write(STOP);
            starts[RENTS] = written;
            write(VARIABLE);
            write(STOP);
        }

        void write(int word) {
            if (written < CODE) {
                code[written] = word;
                written++;
            }
        }

        /** Makes the word at a place a jump to what is written next. */
        void jumpHere(int from) {
            if (from >= 0 && from < written) {
                code[from] = JUMP - written;
            }
        }
    }

    /** The TOKENS of a tape: as many as a text can have, and one more, or the end. */
    private static final class Tokens {
        static final int MOST = 400;

        // The kinds: these, the byte of a SIGN, and the words from WORD on.
        static final int END = 0;
        static final int NO_TOKEN = 1;
        static final int NAME = 2;
        static final int INT = 3;
        static final int WORD = 128;
        static final int HOUSE = 128;
        static final int PERSON = 129;
        static final int RIGHT = 130;
        static final int AWAY = 131;
        static final int FIRST_LAW = 132;
        static final int SEED = 136;
        static final int IF = 137;
        static final int THEN = 138;
        static final int ELSE = 139;
        static final int FIRST_VARIABLE = 140;

        private static final int LONGEST_NAME = 8;
        private static final int LONGEST_INT = 4;
        private static final int COLUMN = 7;
        private static final String WORDS = "house  person right  away   goes   comes  dies   rents  seed   if     then   else   rent   age    gone   got    year   rights lord   which  home   ";
        private static final String SIGNS = ";=+-*/<()";

        final int[] kinds = new int[MOST + 1];
        final int[] starts = new int[MOST + 1];
        // An INT's number, or a NAME's letters, five bits each, so that NAMES compare as numbers.
        final long[] values = new long[MOST + 1];
        private byte[] tape = new byte[0];
        private int length = 0;
        private int next = 0;

        void scan(byte[] newTape, int newLength) {
            tape = newTape;
            length = Math.min(newLength, tape.length);
            next = 0;
            // One TOKEN too many is refused, so nothing behind it is ever looked at.
            for (int i = 0; i <= MOST; i++) {
                skipBlanks();
                starts[i] = next;
                kinds[i] = next < length ? scanToken(i) : END;
            }
        }

        private void skipBlanks() {
            while (next < length && isBlank(tape[next])) {
                next++;
            }
        }

        private int scanToken(int i) {
            int sign = tape[next];
            if (isLetter(sign)) {
                return scanLetters(i);
            }
            if (isDigit(sign)) {
                return scanDigits(i);
            }
            next++;
            return SIGNS.indexOf((char) (sign & 255)) >= 0 ? sign : NO_TOKEN;
        }

        private int scanLetters(int i) {
            int start = next;
            long letters = 0;
            while (next < length && isLetter(tape[next])) {
                letters = letters * 32 + (tape[next] - 'a' + 1);
                next++;
            }
            values[i] = letters;
            return next - start > LONGEST_NAME ? NO_TOKEN : wordOrName(start);
        }

        private int scanDigits(int i) {
            int start = next;
            long number = 0;
            while (next < length && isDigit(tape[next])) {
                number = number * 10 + (tape[next] - '0');
                next++;
            }
            values[i] = number;
            return next - start > LONGEST_INT ? NO_TOKEN : INT;
        }

        private int wordOrName(int start) {
            for (int column = 0; column < WORDS.length(); column += COLUMN) {
                if (isWord(column, start, next - start)) {
                    return WORD + column / COLUMN;
                }
            }
            return NAME;
        }

        private boolean isWord(int column, int start, int size) {
            // Each word has a blank behind it in its column.
            if (size >= COLUMN || column + size >= WORDS.length() || WORDS.charAt(column + size) != ' ') {
                return false;
            }
            for (int i = 0; i < size; i++) {
                if (WORDS.charAt(column + i) != tape[start + i]) {
                    return false;
                }
            }
            return true;
        }

        private static boolean isBlank(int sign) {
            return sign == 9 || sign == 10 || sign == 13 || sign == 32;
        }

        private static boolean isLetter(int sign) {
            return sign >= 'a' && sign <= 'z';
        }

        private static boolean isDigit(int sign) {
            return sign >= '0' && sign <= '9';
        }
    }

    /** Reads a tape into a text, and finds its FAULT. */
    private static final class Reader {
        private static final int SYNTAX = 1;
        private static final int ROOM = 2;
        private static final int TWICE = 3;
        private static final int NAMELESS = 4;
        private static final int WRONG = 5;

        private static final int MOST_RIGHTS = 20;
        private static final int MOST_ABSENCES = 7;
        private static final int MOST_IFS = 4;
        private static final int MOST_DEPTH = 6;
        private static final int MOST_NUMBER = 99;

        private final Tokens tokens = new Tokens();
        private final long[] houseNames = new long[MOST_HOUSES];
        private final long[] personNames = new long[MOST_PEOPLE];
        // Given away only without a FAULT: a wrong one changes nothing.
        private Text text = new Text();
        // How many TOKENS are behind: MOST at most, so that there is always one at hand.
        private int taken = 0;
        private int rights = 0;
        private int absences = 0;
        private int fault = 0;
        int faultPlace = NONE;
        // The first FAULT of those that count only in a text without SYNTAX and ROOM.
        private int doubt = 0;
        private int doubtPlace = NONE;

        /** Gives what was read for another text, to be read into from then on. */
        Text exchange(Text other) {
            Text ready = text;
            text = other;
            return ready;
        }

        int readTape(byte[] tape, int length) {
            tokens.scan(tape, length);
            begin();
            boolean well = true;
            // Each TELL takes a TOKEN at least, and one too many is refused.
            for (int tells = 0; tells <= Tokens.MOST && well && kind() != Tokens.END; tells++) {
                switch (kind()) {
                    case Tokens.HOUSE:
                        well = readHouse();
                        break;
                    case Tokens.PERSON:
                        well = readPerson();
                        break;
                    case Tokens.RIGHT:
                        well = readRight();
                        break;
                    case Tokens.AWAY:
                        well = readAbsence();
                        break;
                    case Tokens.SEED:
                        well = readSeed();
                        break;
                    default:
                        well = readLaw(kind() - Tokens.FIRST_LAW);
                        break;
                }
            }
            if (fault == 0) {
                fault = doubt;
                faultPlace = doubtPlace;
            } else {
                faultPlace = tokens.starts[taken];
            }
            return fault;
        }

        private void begin() {
            text.empty();
            taken = 0;
            rights = 0;
            absences = 0;
            fault = 0;
            doubt = 0;
            doubtPlace = NONE;
        }

        private boolean readHouse() {
            if (text.houses >= MOST_HOUSES) {
                return refuse(ROOM);
            }
            boolean well = readNamed(Tokens.HOUSE, houseNames, text.rents, text.houses);
            text.houses++;
            return well;
        }

        private boolean readPerson() {
            if (text.people >= MOST_PEOPLE) {
                return refuse(ROOM);
            }
            boolean well = readNamed(Tokens.PERSON, personNames, text.ages, text.people);
            text.people++;
            return well;
        }

        private boolean readNamed(int word, long[] names, int[] numbers, int at) {
            if (!take(word)) {
                return false;
            }
            suspectOldName();
            names[at] = value();
            if (!take(Tokens.NAME)) {
                return false;
            }
            suspectNumber();
            numbers[at] = (int) value();
            return take(Tokens.INT) && take(';');
        }

        private boolean readRight() {
            if (rights >= MOST_RIGHTS) {
                return refuse(ROOM);
            }
            rights++;
            if (!take(Tokens.RIGHT)) {
                return false;
            }
            int person = findPerson();
            if (!take(Tokens.NAME)) {
                return false;
            }
            int house = findName(houseNames, text.houses);
            if (house == NONE) {
                suspect(NAMELESS);
            } else if (person != NONE) {
                suspectOldRight(person, house);
                text.holders[house] |= 1 << person;
            }
            return take(Tokens.NAME) && take(';');
        }

        private boolean readAbsence() {
            if (absences >= MOST_ABSENCES) {
                return refuse(ROOM);
            }
            absences++;
            if (!take(Tokens.AWAY)) {
                return false;
            }
            int person = findPerson();
            if (!take(Tokens.NAME)) {
                return false;
            }
            suspectNumber();
            if (person != NONE) {
                text.absences[person] = (int) value();
            }
            return take(Tokens.INT) && take(';');
        }

        private boolean readSeed() {
            if (!take(Tokens.SEED)) {
                return false;
            }
            text.seed = (int) value();
            return take(Tokens.INT) && take(';');
        }

        private boolean readLaw(int law) {
            if (law < 0 || law >= LAWS) {
                return refuse(SYNTAX);
            }
            text.starts[law] = text.written;
            if (!take(Tokens.FIRST_LAW + law) || !take('=')) {
                return false;
            }
            for (int ifs = 0; ifs < MOST_IFS && kind() == Tokens.IF; ifs++) {
                if (!readIf()) {
                    return false;
                }
            }
            if (kind() == Tokens.IF) {
                return refuse(ROOM);
            }
            if (!readSum(0)) {
                return false;
            }
            text.write(Text.STOP);
            return take(';');
        }

        private boolean readIf() {
            if (!take(Tokens.IF) || !readSum(0) || !take('<') || !readSum(0) || !take(Tokens.THEN)) {
                return false;
            }
            int jump = text.written;
            text.write(Text.JUMP);
            if (!readSum(0) || !take(Tokens.ELSE)) {
                return false;
            }
            text.write(Text.STOP);
            text.jumpHere(jump);
            return true;
        }

        private boolean readSum(int depth) {
            if (!readProduct(depth)) {
                return false;
            }
            for (int i = 0; i < Tokens.MOST && (kind() == '+' || kind() == '-'); i++) {
                int word = kind() == '+' ? Text.PLUS : Text.MINUS;
                if (!take(kind()) || !readProduct(depth)) {
                    return false;
                }
                text.write(word);
            }
            return true;
        }

        private boolean readProduct(int depth) {
            if (!readUnit(depth)) {
                return false;
            }
            for (int i = 0; i < Tokens.MOST && (kind() == '*' || kind() == '/'); i++) {
                int word = kind() == '*' ? Text.TIMES : Text.OVER;
                if (!take(kind()) || !readUnit(depth)) {
                    return false;
                }
                text.write(word);
            }
            return true;
        }

        private boolean readUnit(int depth) {
            int variable = kind() - Tokens.FIRST_VARIABLE;
            if (kind() == '(') {
                if (depth >= MOST_DEPTH) {
                    return refuse(ROOM);
                }
                return take('(') && readSum(depth + 1) && take(')');
            }
            if (variable >= 0 && variable < Text.VARIABLES) {
                text.write(Text.VARIABLE - variable);
                return take(kind());
            }
            text.write((int) value());
            return take(Tokens.INT);
        }

        private int kind() {
            return tokens.kinds[taken];
        }

        private long value() {
            return tokens.values[taken];
        }

        /** Goes behind the TOKEN at hand, if it is of the one kind with which the text goes on. */
        private boolean take(int kind) {
            if (tokens.kinds[taken] != kind) {
                fault = SYNTAX;
            } else if (taken >= Tokens.MOST) {
                fault = ROOM;
            } else {
                taken++;
            }
            return fault == 0;
        }

        private boolean refuse(int number) {
            fault = number;
            return false;
        }

        private int findPerson() {
            int person = findName(personNames, text.people);
            if (person == NONE) {
                suspect(NAMELESS);
            }
            return person;
        }

        private int findName(long[] names, int many) {
            for (int i = 0; i < many && i < names.length; i++) {
                if (names[i] == value()) {
                    return i;
                }
            }
            return NONE;
        }

        private void suspectOldName() {
            if (findName(houseNames, text.houses) != NONE || findName(personNames, text.people) != NONE) {
                suspect(TWICE);
            }
        }

        private void suspectOldRight(int person, int house) {
            if (has(text.holders[house], person)) {
                suspect(TWICE);
            }
        }

        private void suspectNumber() {
            if (value() > MOST_NUMBER) {
                suspect(WRONG);
            }
        }

        /** Of the TOKEN at hand: one of a wrong kind is refused behind this, and that counts more. */
        private void suspect(int number) {
            if (doubt == 0) {
                doubt = number;
                doubtPlace = tokens.starts[taken];
            }
        }
    }

    /** How the county is at one time: all that goes on. */
    private static final class State {
        int year = 0;
        int home = 0;
        int away = 0;
        // 0 for all who are not AWAY.
        final int[] gone = new int[MOST_PEOPLE];
        final int[] got = new int[MOST_PEOPLE];
        // Of the DEAD as they died.
        final int[] ages = new int[MOST_PEOPLE];
        final int[] holders = new int[MOST_HOUSES];

        void begin(Text text) {
            year = 0;
            home = everybody(text.people);
            away = 0;
            for (int person = 0; person < MOST_PEOPLE; person++) {
                gone[person] = 0;
                got[person] = 0;
                ages[person] = text.ages[person];
            }
            for (int person = 0; person < text.people; person++) {
                if (text.absences[person] != NONE) {
                    goAway(person);
                    gone[person] = text.absences[person];
                }
            }
            for (int house = 0; house < MOST_HOUSES; house++) {
                holders[house] = text.holders[house];
            }
        }

        void copyFrom(State other) {
            year = other.year;
            home = other.home;
            away = other.away;
            System.arraycopy(other.gone, 0, gone, 0, MOST_PEOPLE);
            System.arraycopy(other.got, 0, got, 0, MOST_PEOPLE);
            System.arraycopy(other.ages, 0, ages, 0, MOST_PEOPLE);
            System.arraycopy(other.holders, 0, holders, 0, MOST_HOUSES);
        }

        int alive() {
            return home | away;
        }

        void goAway(int person) {
            home &= ~(1 << person);
            away |= 1 << person;
            gone[person] = 0;
        }

        void comeHome(int person) {
            away &= ~(1 << person);
            home |= 1 << person;
            gone[person] = 0;
        }

        void die(int person) {
            home &= ~(1 << person);
            away &= ~(1 << person);
            gone[person] = 0;
        }

        int standingOf(int person) {
            if (has(home, person)) {
                return 0;
            }
            return has(away, person) ? 1 : 2;
        }

        /** Bits of who is HOME (0), AWAY (1) or DEAD (2); NONE for another standing. */
        int whoStands(Text text, int standing) {
            switch (standing) {
                case 0:
                    return home;
                case 1:
                    return away;
                case 2:
                    return everybody(text.people) & ~alive();
                default:
                    return NONE;
            }
        }

        int landlordOf(int house) {
            return longestGone(holders[house] & away);
        }

        int heirOf(int house) {
            int landlord = landlordOf(house);
            return landlord < 0 ? NOBODY : longestGone(holders[house] & away & ~(1 << landlord));
        }

        int rightsHeld(int person) {
            int many = 0;
            for (int house = 0; house < MOST_HOUSES; house++) {
                many += holders[house] >> person & 1;
            }
            return many;
        }

        int allLandlords(Text text) {
            int bits = 0;
            for (int house = 0; house < text.houses; house++) {
                int landlord = landlordOf(house);
                if (landlord >= 0) {
                    bits |= 1 << landlord;
                }
            }
            return bits;
        }

        private int longestGone(int among) {
            int who = NOBODY;
            int longest = NONE;
            for (int person = 0; person < MOST_PEOPLE; person++) {
                if (has(among, person) && (who == NOBODY || gone[person] > longest)) {
                    who = person;
                    longest = gone[person];
                }
            }
            return who;
        }
    }

    /** The last things done, each as how it was ahead of it. */
    private static final class Past {
        private static final int MOST_KEPT = 40;

        private final State[] states = new State[MOST_KEPT];
        private int next = 0;
        int kept = 0;

        Past() {
            for (int i = 0; i < MOST_KEPT; i++) {
                states[i] = new State();
            }
        }

        void clear() {
            kept = 0;
        }

        void keep(State state) {
            states[next].copyFrom(state);
            next = (next + 1) % MOST_KEPT;
            kept = Math.min(kept + 1, MOST_KEPT);
        }

        boolean takeBack(State into) {
            if (kept == 0) {
                return false;
            }
            next = (next + MOST_KEPT - 1) % MOST_KEPT;
            kept--;
            into.copyFrom(states[next]);
            return true;
        }
    }

    /** What the LAWS say of a state. */
    private static final class Court {
        private static final int MOST_CHANCE = 100;
        private static final int MOST_RENTS = 99;
        // Two values wait at each of the seven depths, one left of a '<', one is the latest.
        private static final int STACK = 16;

        private final int[] landlords = new int[MOST_HOUSES];
        private final int[] lordships = new int[MOST_PEOPLE];
        private final int[] ownRents = new int[MOST_PEOPLE];
        private final int[] stack = new int[STACK];

        /** The LANDLORDS are found once here, as they stay while nobody goes, comes or dies. */
        void look(Text text, State state) {
            for (int person = 0; person < MOST_PEOPLE; person++) {
                lordships[person] = 0;
                ownRents[person] = 0;
            }
            for (int house = 0; house < text.houses; house++) {
                int landlord = state.landlordOf(house);
                landlords[house] = landlord;
                if (landlord >= 0) {
                    lordships[landlord]++;
                    ownRents[landlord] += text.rents[house];
                }
            }
        }

        int landlordSeen(int house) {
            return landlords[house];
        }

        int rentsOf(Text text, State state, int house) {
            int landlord = landlords[house];
            if (landlord < 0) {
                return 0;
            }
            return Math.max(0, Math.min(MOST_RENTS, valueOf(text, state, RENTS, landlord, house)));
        }

        int chanceOf(Text text, State state, int law, int person) {
            return Math.max(0, Math.min(MOST_CHANCE, valueOf(text, state, law, person, NONE)));
        }

        /** A LAW of a PERSON, and of a HOUSE if it is not NONE. */
        private int valueOf(Text text, State state, int law, int person, int house) {
            int at = text.starts[law];
            int top = 0;
            // No jump goes back, so each word is met once at most.
            for (int steps = 0; steps < Text.CODE && at >= 0 && at < text.written; steps++) {
                int word = text.code[at];
                at++;
                if (word > Text.VARIABLE - Text.VARIABLES) {
                    if (top >= STACK) {
                        return 0;
                    }
                    stack[top] = word >= 0 ? word : variableOf(text, state, Text.VARIABLE - word, person, house);
                    top++;
                } else if (word == Text.STOP) {
                    return top > 0 ? stack[top - 1] : 0;
                } else if (top < 2) {
                    return 0;
                } else if (word <= Text.JUMP) {
                    top -= 2;
                    at = stack[top] < stack[top + 1] ? at : Text.JUMP - word;
                } else if (word == Text.OVER && stack[top - 1] == 0) {
                    return 0;
                } else {
                    top--;
                    stack[top - 1] = reckon(word, stack[top - 1], stack[top]);
                }
            }
            return 0;
        }

        private static int reckon(int word, int left, int right) {
            switch (word) {
                case Text.PLUS:
                    return left + right;
                case Text.MINUS:
                    return left - right;
                case Text.TIMES:
                    return left * right;
                default:
                    return right == 0 ? 0 : left / right;
            }
        }

        private int variableOf(Text text, State state, int variable, int person, int house) {
            switch (variable) {
                case 0:
                    return house == NONE ? ownRents[person] : text.rents[house];
                case 1:
                    return state.ages[person];
                case 2:
                    return state.gone[person];
                case 3:
                    return state.got[person];
                case 4:
                    return state.year;
                case 5:
                    return state.rightsHeld(person);
                case 6:
                    return lordships[person];
                case 7:
                    return person;
                default:
                    return Integer.bitCount(state.home);
            }
        }
    }

    /** Lets YEARS go by in a state. */
    private static final class Course {
        // By the LAWS' numbers, so that no two lots of a year are of one which.
        private static final int[] LOTS = {8, 16, 0};

        private final Court court = new Court();
        // What each gets this year: paid behind all LAWS, which see the year as it began.
        private final int[] due = new int[MOST_PEOPLE];

        /** With all chances. */
        void goOn(Text text, State state, int n, int seed) {
            for (int i = 0; i < n; i++) {
                court.look(text, state);
                reckonDue(text, state);
                int dying = struckBy(text, state, DIES, state.alive(), seed);
                int going = struckBy(text, state, GOES, state.home & ~dying, seed);
                int coming = struckBy(text, state, COMES, state.away & ~dying, seed);
                turn(text, state, dying, going, coming);
            }
        }

        /** Without chances. */
        void standStill(Text text, State state, int n) {
            court.look(text, state);
            for (int i = 0; i < n; i++) {
                reckonDue(text, state);
                turn(text, state, 0, 0, 0);
            }
        }

        private void reckonDue(Text text, State state) {
            for (int person = 0; person < MOST_PEOPLE; person++) {
                due[person] = 0;
            }
            for (int house = 0; house < text.houses; house++) {
                int landlord = court.landlordSeen(house);
                if (landlord >= 0) {
                    due[landlord] += court.rentsOf(text, state, house);
                }
            }
        }

        private int struckBy(Text text, State state, int law, int among, int seed) {
            int bits = 0;
            for (int person = 0; person < MOST_PEOPLE; person++) {
                if (has(among, person)) {
                    int which = 32 * state.year + LOTS[law] + person;
                    if (lotOfHundred(seed, which) < court.chanceOf(text, state, law, person)) {
                        bits |= 1 << person;
                    }
                }
            }
            return bits;
        }

        private static int lotOfHundred(int seed, int which) {
            int mixed = mix(mix(seed, 181), which);
            return (mixed >>> 1) % 100;
        }

        private static int mix(int h, int it) {
            int mixed = (h ^ it) * 1103515245 + 12345;
            return mixed ^ mixed >>> 15;
        }

        private void turn(Text text, State state, int dying, int going, int coming) {
            for (int person = 0; person < text.people; person++) {
                state.got[person] += due[person];
                if (has(dying, person)) {
                    state.die(person);
                } else if (has(going, person)) {
                    state.goAway(person);
                } else if (has(coming, person)) {
                    state.comeHome(person);
                } else if (has(state.away, person)) {
                    state.gone[person]++;
                }
                if (has(state.alive(), person)) {
                    state.ages[person]++;
                }
            }
            state.year++;
        }
    }

    /** What is TOLD of who went before whom, and the orders that it leaves. */
    private static final class Letters {
        private static final int MOST_TOLD = 20;
        private static final int SETS = 1 << MOST_PEOPLE;

        private final int[] earlier = new int[MOST_TOLD];
        private final int[] later = new int[MOST_TOLD];
        int told = 0;
        private int people = 0;
        // Who must have gone before each.
        private final int[] musts = new int[MOST_PEOPLE];
        // In how many ways just a set can have gone, and all others behind it:
        // by sets, as there are far fewer of them than orders.
        private final int[] heads = new int[SETS];
        private final int[] tails = new int[SETS];

        void clear() {
            told = 0;
        }

        int add(int person, int other) {
            if (told >= MOST_TOLD) {
                return NONE;
            }
            earlier[told] = person;
            later[told] = other;
            told++;
            return told - 1;
        }

        void weigh(int manyPeople, int known) {
            people = manyPeople;
            for (int person = 0; person < MOST_PEOPLE; person++) {
                musts[person] = 0;
            }
            for (int i = 0; i < known && i < told; i++) {
                musts[later[i]] |= 1 << earlier[i];
            }
            for (int set = 0; set <= everybody(people); set++) {
                heads[set] = set == 0 ? 1 : headsOf(set);
            }
            for (int set = everybody(people); set >= 0; set--) {
                tails[set] = set == everybody(people) ? 1 : tailsOf(set);
            }
        }

        private int headsOf(int set) {
            int ways = 0;
            for (int person = 0; person < people; person++) {
                int others = set & ~(1 << person);
                if (has(set, person) && canFollow(others, person)) {
                    ways += heads[others];
                }
            }
            return ways;
        }

        private int tailsOf(int set) {
            int ways = 0;
            for (int person = 0; person < people; person++) {
                if (canFollow(set, person)) {
                    ways += tails[set | 1 << person];
                }
            }
            return ways;
        }

        private boolean canFollow(int set, int person) {
            return !has(set, person) && (musts[person] & ~set) == 0;
        }

        int all() {
            return tails[0];
        }

        /** In how many orders just a set went before a PERSON. */
        private int timesBehind(int set, int person) {
            return canFollow(set, person) ? heads[set] * tails[set | 1 << person] : 0;
        }

        int timesAt(int person, int at) {
            int times = 0;
            for (int set = 0; set <= everybody(people); set++) {
                if (Integer.bitCount(set) == at) {
                    times += timesBehind(set, person);
                }
            }
            return times;
        }

        int timesAhead(int person, int other) {
            int times = 0;
            for (int set = 0; set <= everybody(people); set++) {
                if (has(set, person)) {
                    times += timesBehind(set, other);
                }
            }
            return times;
        }

        int whoIsAt(int order, int at) {
            int gone = 0;
            int left = order;
            int who = NONE;
            for (int place = 0; place <= at && place < people; place++) {
                who = NONE;
                for (int person = 0; person < people && who == NONE; person++) {
                    int ways = canFollow(gone, person) ? tails[gone | 1 << person] : 0;
                    if (left < ways) {
                        who = person;
                    } else {
                        left -= ways;
                    }
                }
                if (who == NONE) {
                    return NONE;
                }
                gone |= 1 << who;
            }
            return who;
        }
    }
}
