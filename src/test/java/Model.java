import java.util.ArrayDeque;
import java.util.ArrayList;
import java.util.Deque;
import java.util.HashMap;
import java.util.List;
import java.util.Map;
import java.util.Set;
import java.util.TreeSet;
import java.util.regex.Matcher;
import java.util.regex.Pattern;

/**
 * The document once more, as slowly and plainly as it can be told, to compare the program with: every set
 * is tried, every order is listed, every text is read by a table.
 */
final class Model {
    private static final Set<String> WORDS = Set.of("house", "person", "right", "away", "goes", "comes", "dies",
            "rents", "seed", "if", "then", "else", "rent", "age", "gone", "got", "year", "rights", "lord", "which",
            "home");
    private static final Set<String> VARS =
            Set.of("rent", "age", "gone", "got", "year", "rights", "lord", "which", "home");
    private static final Set<String> LAWS = Set.of("goes", "comes", "dies", "rents");

    private record Token(String kind, String text, int at) { }

    private record Fault(int number, int at) { }

    private static final class DividedByNothing extends Exception {
        private static final long serialVersionUID = 1L;
    }

    /** Who is alive where, who has what: copied whole whenever something might happen to it. */
    private static final class World {
        int year;
        final List<String> modes = new ArrayList<>();
        final List<Integer> gone = new ArrayList<>();
        final List<Integer> got = new ArrayList<>();
        final List<Integer> deathYears = new ArrayList<>();
        final Set<List<Integer>> rights = new java.util.HashSet<>();

        World copy() {
            World w = new World();
            w.year = year;
            w.modes.addAll(modes);
            w.gone.addAll(gone);
            w.got.addAll(got);
            w.deathYears.addAll(deathYears);
            w.rights.addAll(rights);
            return w;
        }

        boolean right(int person, int house) {
            return rights.contains(List.of(person, house));
        }

        boolean is(int person, String mode) {
            return modes.get(person).equals(mode);
        }

        void move(int person, String mode) {
            modes.set(person, mode);
            gone.set(person, 0);
            if (mode.equals("DEAD")) {
                deathYears.set(person, year);
            }
        }
    }

    private final StringBuilder tape = new StringBuilder();
    private int place = -1;
    private List<Integer> rents = new ArrayList<>();
    private List<Integer> ages = new ArrayList<>();
    private Map<String, List<Token>> laws = new HashMap<>();
    private int seed = 0;
    private World now = new World();
    private final Deque<World> past = new ArrayDeque<>();
    private final Map<Integer, World> slots = new HashMap<>();
    private final List<int[]> told = new ArrayList<>();

    // ---- texts

    int feed(int... words) {
        if (tape.length() + 20 > 2000) {
            return -1;
        }
        for (int word : words) {
            tape.append((char) (word >>> 24)).append((char) (word >>> 16 & 255));
            tape.append((char) (word >>> 8 & 255)).append((char) (word & 255));
        }
        return tape.length();
    }

    int back(int n) {
        if (n < 0 || n > tape.length()) {
            return -1;
        }
        tape.setLength(tape.length() - n);
        return tape.length();
    }

    int place() {
        return place;
    }

    int read() {
        String text = tape.toString();
        tape.setLength(0);
        List<Token> tokens = tokens(text);
        Fault fault = lesser(syntax(tokens), room(tokens));
        if (fault == null) {
            fault = install(tokens);
        }
        place = fault == null ? -1 : fault.at;
        return fault == null ? 0 : fault.number;
    }

    private static List<Token> tokens(String text) {
        List<Token> tokens = new ArrayList<>();
        Matcher m = Pattern.compile("([a-z]+)|([0-9]+)|([-;=+*/<()])|([\\t\\n\\r ])|(.)", Pattern.DOTALL).matcher(text);
        while (m.find()) {
            String t = m.group();
            if (m.group(4) != null) {
                continue;
            }
            String kind = t;
            if (m.group(1) != null && !WORDS.contains(t)) {
                kind = t.length() > 8 ? "BAD" : "NAME";
            } else if (m.group(2) != null) {
                kind = t.length() > 4 ? "BAD" : "INT";
            } else if (m.group(5) != null) {
                kind = "BAD";
            }
            tokens.add(new Token(kind, t, m.start()));
        }
        tokens.add(new Token("END", "", text.length()));
        return tokens;
    }

    /** By a stack of what has still to come, replaced from above by what the next TOKEN allows. */
    private static Fault syntax(List<Token> tokens) {
        Deque<String> stack = new ArrayDeque<>(List.of("TEXT"));
        int i = 0;
        while (i < tokens.size()) {
            Token t = tokens.get(i);
            String top = stack.pop();
            List<String> rule = rule(top, t.kind);
            if (rule != null) {
                for (int j = rule.size() - 1; j >= 0; j--) {
                    stack.push(rule.get(j));
                }
            } else if (top.equals(t.kind)) {
                i++;
            } else {
                return new Fault(1, t.at);
            }
        }
        return null;
    }

    private static List<String> rule(String symbol, String next) {
        switch (symbol) {
            case "TEXT":
                return next.equals("END") ? List.of("END") : List.of("TELL", ";", "TEXT");
            case "TELL":
                return LAWS.contains(next) ? List.of(next, "=", "IFS", "E") : Map.of(
                        "house", List.of("house", "NAME", "INT"), "person", List.of("person", "NAME", "INT"),
                        "right", List.of("right", "NAME", "NAME"), "away", List.of("away", "NAME", "INT"),
                        "seed", List.of("seed", "INT")).get(next);
            case "IFS":
                return next.equals("if") ? List.of("if", "E", "<", "E", "then", "E", "else", "IFS") : List.of();
            case "E":
                return List.of("PART", "PARTS");
            case "PARTS":
                return Set.of("+", "-").contains(next) ? List.of(next, "PART", "PARTS") : List.of();
            case "PART":
                return List.of("UNIT", "UNITS");
            case "UNITS":
                return Set.of("*", "/").contains(next) ? List.of(next, "UNIT", "UNITS") : List.of();
            case "UNIT":
                return VARS.contains(next) ? List.of(next) : next.equals("(") ? List.of("(", "E", ")") : List.of("INT");
            default:
                return null;
        }
    }

    /** As each word that opens something stands for nothing else, it is enough to count them. */
    private static Fault room(List<Token> tokens) {
        Map<String, Integer> most = Map.of("house", 5, "person", 7, "right", 20, "away", 7, "if", 4);
        Map<String, Integer> seen = new HashMap<>();
        int depth = 0;
        for (int i = 0; i < tokens.size(); i++) {
            Token t = tokens.get(i);
            if (t.kind.equals("END")) {
                return null;
            }
            if (LAWS.contains(t.kind)) {
                seen.put("if", 0);
            }
            depth += t.kind.equals("(") ? 1 : t.kind.equals(")") ? -1 : 0;
            if (i >= 400 || seen.merge(t.kind, 1, Integer::sum) > most.getOrDefault(t.kind, 9999) || depth > 6) {
                return new Fault(2, t.at);
            }
        }
        return null;
    }

    private static Fault lesser(Fault a, Fault b) {
        if (a == null || b == null) {
            return a == null ? b : a;
        }
        return b.at < a.at || b.at == a.at && b.number < a.number ? b : a;
    }

    private Fault install(List<Token> tokens) {
        Map<String, Integer> houses = new HashMap<>();
        Map<String, Integer> people = new HashMap<>();
        List<Integer> newRents = new ArrayList<>();
        List<Integer> newAges = new ArrayList<>();
        Map<String, List<Token>> newLaws = new HashMap<>();
        Map<Integer, Integer> absences = new HashMap<>();
        World w = new World();
        int newSeed = 0;
        Fault fault = null;
        List<Token> tell = new ArrayList<>();
        for (Token t : tokens) {
            tell.add(t);
            if (!t.kind.equals(";")) {
                continue;
            }
            Token a = tell.get(1);
            Token b = tell.get(2);
            switch (tell.get(0).kind) {
                case "house":
                case "person":
                    if (houses.containsKey(a.text) || people.containsKey(a.text)) {
                        fault = lesser(fault, new Fault(3, a.at));
                    }
                    if (tell.get(0).kind.equals("house")) {
                        houses.putIfAbsent(a.text, newRents.size());
                        newRents.add(Integer.parseInt(b.text));
                    } else {
                        people.putIfAbsent(a.text, newAges.size());
                        newAges.add(Integer.parseInt(b.text));
                    }
                    fault = lesser(fault, Integer.parseInt(b.text) > 99 ? new Fault(5, b.at) : null);
                    break;
                case "right":
                    fault = lesser(fault, people.containsKey(a.text) ? null : new Fault(4, a.at));
                    fault = lesser(fault, houses.containsKey(b.text) ? null : new Fault(4, b.at));
                    if (people.containsKey(a.text) && houses.containsKey(b.text)
                            && !w.rights.add(List.of(people.get(a.text), houses.get(b.text)))) {
                        fault = lesser(fault, new Fault(3, b.at));
                    }
                    break;
                case "away":
                    fault = lesser(fault, people.containsKey(a.text) ? null : new Fault(4, a.at));
                    fault = lesser(fault, Integer.parseInt(b.text) > 99 ? new Fault(5, b.at) : null);
                    if (people.containsKey(a.text)) {
                        absences.put(people.get(a.text), Integer.parseInt(b.text));
                    }
                    break;
                case "seed":
                    newSeed = Integer.parseInt(a.text);
                    break;
                default:
                    newLaws.put(tell.get(0).kind, List.copyOf(tell.subList(2, tell.size())));
                    break;
            }
            tell.clear();
        }
        if (fault != null) {
            return fault;
        }
        for (int p = 0; p < newAges.size(); p++) {
            w.modes.add(absences.containsKey(p) ? "AWAY" : "HOME");
            w.gone.add(absences.getOrDefault(p, 0));
            w.got.add(0);
            w.deathYears.add(0);
        }
        rents = newRents;
        ages = newAges;
        laws = newLaws;
        seed = newSeed;
        now = w;
        past.clear();
        slots.clear();
        told.clear();
        return null;
    }

    // ---- laws

    private int law(String name, World w, int person, int house) {
        List<Token> tokens = laws.get(name);
        if (tokens == null) {
            return name.equals("rents") ? rents.get(house) : 0;
        }
        try {
            return new Evaluation(tokens, w, person, house).value();
        } catch (DividedByNothing e) {
            return 0;
        }
    }

    private final class Evaluation {
        private final List<Token> tokens;
        private final World w;
        private final int person;
        private final int house;
        private int at = 0;

        Evaluation(List<Token> tokens, World w, int person, int house) {
            this.tokens = tokens;
            this.w = w;
            this.person = person;
            this.house = house;
        }

        int value() throws DividedByNothing {
            while (tokens.get(at).kind.equals("if")) {
                at++;
                int left = sum();
                at++;
                int right = sum();
                at++;
                if (left < right) {
                    return sum();
                }
                while (!tokens.get(at).kind.equals("else")) {
                    at++;
                }
                at++;
            }
            return sum();
        }

        private int sum() throws DividedByNothing {
            int v = product();
            while (tokens.get(at).kind.equals("+") || tokens.get(at).kind.equals("-")) {
                String sign = tokens.get(at++).kind;
                int other = product();
                v = (int) (sign.equals("+") ? (long) v + other : (long) v - other);
            }
            return v;
        }

        private int product() throws DividedByNothing {
            int v = unit();
            while (tokens.get(at).kind.equals("*") || tokens.get(at).kind.equals("/")) {
                String sign = tokens.get(at++).kind;
                int other = unit();
                if (sign.equals("/") && other == 0) {
                    throw new DividedByNothing();
                }
                v = (int) (sign.equals("*") ? (long) v * other : (long) v / other);
            }
            return v;
        }

        private int unit() throws DividedByNothing {
            Token t = tokens.get(at++);
            if (t.kind.equals("(")) {
                int v = sum();
                at++;
                return v;
            }
            return t.kind.equals("INT") ? Integer.parseInt(t.text) : variable(t.kind);
        }

        private int variable(String name) {
            switch (name) {
                case "rent":
                    return house >= 0 ? rents.get(house) : ownHouses(w, person).stream().mapToInt(rents::get).sum();
                case "age":
                    return age(w, person);
                case "gone":
                    return w.gone.get(person);
                case "got":
                    return w.got.get(person);
                case "year":
                    return w.year;
                case "rights":
                    return (int) w.rights.stream().filter(r -> r.get(0) == person).count();
                case "lord":
                    return ownHouses(w, person).size();
                case "which":
                    return person;
                default:
                    return (int) w.modes.stream().filter("HOME"::equals).count();
            }
        }
    }

    private static int held(int v, int most) {
        return v < 0 ? 0 : v > most ? most : v;
    }

    private int age(World w, int person) {
        return ages.get(person) + (w.is(person, "DEAD") ? w.deathYears.get(person) : w.year);
    }

    private int landlord(World w, int house) {
        int who = -2;
        for (int p = ages.size() - 1; p >= 0; p--) {
            if (w.is(p, "AWAY") && w.right(p, house) && (who < 0 || w.gone.get(p) >= w.gone.get(who))) {
                who = p;
            }
        }
        return who;
    }

    private Set<Integer> ownHouses(World w, int person) {
        Set<Integer> houses = new TreeSet<>();
        for (int h = 0; h < rents.size(); h++) {
            if (landlord(w, h) == person) {
                houses.add(h);
            }
        }
        return houses;
    }

    private int rentsOf(World w, int house) {
        int lord = landlord(w, house);
        return lord < 0 ? 0 : held(law("rents", w, lord, house), 99);
    }

    static int lot(int n, int seed, int which) {
        int h = seed;
        for (int it : new int[] {181, which}) {
            h = (h ^ it) * 1103515245 + 12345;
            h = h ^ (h >>> 15);
        }
        return (h >>> 1) % n;
    }

    private World yearOn(World w, boolean chances, int bySeed) {
        World next = w.copy();
        for (int h = 0; h < rents.size(); h++) {
            int lord = landlord(w, h);
            if (lord >= 0) {
                next.got.set(lord, next.got.get(lord) + rentsOf(w, h));
            }
        }
        for (int p = 0; p < ages.size(); p++) {
            if (w.is(p, "DEAD")) {
                continue;
            }
            if (chances && lot(100, bySeed, 32 * w.year + p) < held(law("dies", w, p, -1), 100)) {
                next.move(p, "DEAD");
            } else if (w.is(p, "HOME")) {
                if (chances && lot(100, bySeed, 32 * w.year + 8 + p) < held(law("goes", w, p, -1), 100)) {
                    next.move(p, "AWAY");
                }
            } else if (chances && lot(100, bySeed, 32 * w.year + 16 + p) < held(law("comes", w, p, -1), 100)) {
                next.move(p, "HOME");
            } else {
                next.gone.set(p, w.gone.get(p) + 1);
            }
        }
        next.year++;
        return next;
    }

    private World yearsOn(World w, int n, boolean chances, int bySeed) {
        World v = w;
        for (int i = 0; i < n; i++) {
            v = yearOn(v, chances, bySeed);
        }
        return v;
    }

    // ---- what is so, what is done

    private boolean isHouse(int house) {
        return house >= 0 && house < rents.size();
    }

    private boolean isPerson(int person) {
        return person >= 0 && person < ages.size();
    }

    private static int bits(Iterable<Integer> ones) {
        int bits = 0;
        for (int one : ones) {
            bits |= 1 << one;
        }
        return bits;
    }

    private int whoIs(World w, String mode) {
        List<Integer> who = new ArrayList<>();
        for (int p = 0; p < ages.size(); p++) {
            if (w.is(p, mode)) {
                who.add(p);
            }
        }
        return bits(who);
    }

    private int holders(World w, int house) {
        List<Integer> who = new ArrayList<>();
        for (int p = 0; p < ages.size(); p++) {
            if (w.right(p, house)) {
                who.add(p);
            }
        }
        return bits(who);
    }

    private int housesOf(World w, int person) {
        List<Integer> which = new ArrayList<>();
        for (int h = 0; h < rents.size(); h++) {
            if (w.right(person, h)) {
                which.add(h);
            }
        }
        return bits(which);
    }

    int house(int house, int what) {
        if (!isHouse(house) || what < 0 || what > 3) {
            return -1;
        }
        return new int[] {rents.get(house), landlord(now, house), holders(now, house), rentsOf(now, house)}[what];
    }

    int person(int person, int what) {
        if (!isPerson(person) || what < 0 || what > 8) {
            return -1;
        }
        return new int[] {age(now, person), List.of("HOME", "AWAY", "DEAD").indexOf(now.modes.get(person)),
            now.gone.get(person), now.got.get(person), housesOf(now, person), bits(ownHouses(now, person)),
            held(law("goes", now, person, -1), 100), held(law("comes", now, person, -1), 100),
            held(law("dies", now, person, -1), 100)}[what];
    }

    private void keep() {
        past.push(now.copy());
        if (past.size() > 40) {
            past.removeLast();
        }
    }

    private boolean moved(int person, Set<String> from, String to) {
        if (!isPerson(person) || !from.contains(now.modes.get(person))) {
            return false;
        }
        keep();
        now.move(person, to);
        return true;
    }

    boolean send(int person) {
        return moved(person, Set.of("HOME"), "AWAY");
    }

    boolean call(int person) {
        return moved(person, Set.of("AWAY"), "HOME");
    }

    boolean bury(int person) {
        return moved(person, Set.of("HOME", "AWAY"), "DEAD");
    }

    boolean give(int person, int house, boolean given) {
        if (!isPerson(person) || !isHouse(house) || now.right(person, house) == given) {
            return false;
        }
        keep();
        if (given) {
            now.rights.add(List.of(person, house));
        } else {
            now.rights.remove(List.of(person, house));
        }
        return true;
    }

    int years(int n) {
        if (n < 0 || n > 40) {
            return -1;
        }
        if (n > 0) {
            keep();
            now = yearsOn(now, n, true, seed);
        }
        return now.year;
    }

    boolean undo() {
        if (past.isEmpty()) {
            return false;
        }
        now = past.pop();
        return true;
    }

    // ---- what would be

    int heir(int house) {
        if (!isHouse(house)) {
            return -1;
        }
        int lord = landlord(now, house);
        if (lord < 0) {
            return -2;
        }
        World w = now.copy();
        w.move(lord, "HOME");
        return landlord(w, house);
    }

    int race(int house) {
        int heir = heir(house);
        return heir < 0 ? heir : now.gone.get(landlord(now, house)) - now.gone.get(heir);
    }

    private int gained(World from, int person, int n) {
        return yearsOn(from, n, false, 0).got.get(person) - from.got.get(person);
    }

    int gain(int person, int n) {
        return !isPerson(person) || n < 0 || n > 40 ? -1 : gained(now, person, n);
    }

    int best(int person, int n, int what) {
        if (!isPerson(person) || !now.is(person, "HOME") || n < 1 || n > 40 || what < 0 || what > 1) {
            return -1;
        }
        int[] answer = {-1, -1};
        for (int wait = 0; wait < n; wait++) {
            World w = yearsOn(now, wait, false, 0).copy();
            w.move(person, "AWAY");
            int much = yearsOn(w, n - wait, false, 0).got.get(person) - now.got.get(person);
            if (answer[0] < 0 || much > answer[1]) {
                answer = new int[] {wait, much};
            }
        }
        return answer[what];
    }

    int loss(int person, int n) {
        if (!isPerson(person) || !now.is(person, "AWAY") || n < 0 || n > 40) {
            return -100000;
        }
        World w = now.copy();
        w.move(person, "HOME");
        int more = 0;
        for (int p = 0; p < ages.size(); p++) {
            more += p == person ? 0 : gained(w, p, n) - gained(now, p, n);
        }
        return more;
    }

    int duel(int person, int other, int n, int choice, int what) {
        if (!isPerson(person) || !isPerson(other) || person == other || !now.is(person, "HOME")
                || !now.is(other, "HOME") || n < 1 || n > 40 || choice < 0 || choice > 3 || what < 0 || what > 1) {
            return -1;
        }
        World w = now.copy();
        if (choice == 1 || choice == 3) {
            w.move(person, "AWAY");
        }
        if (choice == 2 || choice == 3) {
            w.move(other, "AWAY");
        }
        return gained(w, what == 0 ? person : other, n);
    }

    int rest(int person, int other, int n) {
        if (duel(person, other, n, 0, 0) < 0) {
            return -1;
        }
        int[] firstTurned = {1, 0, 3, 2};
        int[] otherTurned = {2, 3, 0, 1};
        int bits = 0;
        for (int c = 0; c < 4; c++) {
            if (duel(person, other, n, firstTurned[c], 0) <= duel(person, other, n, c, 0)
                    && duel(person, other, n, otherTurned[c], 1) <= duel(person, other, n, c, 1)) {
                bits += 1 << c;
            }
        }
        return bits;
    }

    int fill(int what) {
        int best = -1;
        for (int set = 0; set < 1 << ages.size(); set++) {
            boolean good = (set & ~whoIs(now, "HOME")) == 0;
            for (int h = 0; h < rents.size(); h++) {
                boolean wanted = (holders(now, h) & ~whoIs(now, "DEAD")) != 0;
                good &= !wanted || (holders(now, h) & (whoIs(now, "AWAY") | set)) != 0;
            }
            if (good && (best < 0 || Integer.bitCount(set) < Integer.bitCount(best))) {
                best = set;
            }
        }
        return what == 0 ? Integer.bitCount(best) : what == 1 ? best : -1;
    }

    int agents(int what) {
        int best = -1;
        for (int set = 0; set < 1 << ages.size(); set++) {
            boolean good = (set & whoIs(now, "DEAD")) == 0;
            for (int h = 0; h < rents.size(); h++) {
                boolean wanted = (holders(now, h) & ~whoIs(now, "DEAD")) != 0;
                good &= !wanted || (holders(now, h) & set) != 0;
            }
            if (good && (best < 0 || Integer.bitCount(set) < Integer.bitCount(best))) {
                best = set;
            }
        }
        return what == 0 ? Integer.bitCount(best) : what == 1 ? best : -1;
    }

    int richest(int what) {
        if (what < 0 || what > 1) {
            return -1;
        }
        int most = now.got.stream().mapToInt(i -> i).max().orElse(-2);
        return what == 1 || most == -2 ? most : now.got.indexOf(most);
    }

    int eldest(int what) {
        if (what < 0 || what > 1) {
            return -1;
        }
        List<Integer> alive = new ArrayList<>();
        for (int p = 0; p < ages.size(); p++) {
            alive.add(now.is(p, "DEAD") ? -2 : age(now, p));
        }
        int most = alive.stream().mapToInt(i -> i).max().orElse(-2);
        return what == 1 || most == -2 ? most : alive.indexOf(most);
    }

    int lords(int i) {
        if (i != -1 && !isHouse(i)) {
            return -1;
        }
        List<Integer> best = new ArrayList<>();
        lordsFrom(new ArrayList<>(), best);
        return i == -1 ? (int) best.stream().filter(p -> p >= 0).count() : best.get(i);
    }

    /** Tries all in the order in which alike ones are preferred, so that only a better one replaces one. */
    private void lordsFrom(List<Integer> given, List<Integer> best) {
        if (given.size() == rents.size()) {
            if (best.isEmpty() || given.stream().filter(p -> p >= 0).count() > best.stream().filter(p -> p >= 0).count()) {
                best.clear();
                best.addAll(given);
            }
            return;
        }
        for (int p = 0; p <= ages.size(); p++) {
            boolean nobody = p == ages.size();
            if (nobody || now.is(p, "AWAY") && now.right(p, given.size()) && !given.contains(p)) {
                given.add(nobody ? -2 : p);
                lordsFrom(given, best);
                given.remove(given.size() - 1);
            }
        }
    }

    int bound(int person) {
        if (!isPerson(person) || now.is(person, "DEAD")) {
            return -1;
        }
        Set<Integer> bound = new TreeSet<>(Set.of(person));
        Deque<Integer> open = new ArrayDeque<>(bound);
        while (!open.isEmpty()) {
            int one = open.pop();
            for (int p = 0; p < ages.size(); p++) {
                if (!now.is(p, "DEAD") && (housesOf(now, p) & housesOf(now, one)) != 0 && bound.add(p)) {
                    open.push(p);
                }
            }
        }
        return bits(bound);
    }

    int idle() {
        return bits(ownHouses(now, -2));
    }

    int share(int person) {
        if (!isPerson(person)) {
            return -1;
        }
        int own = Integer.bitCount(housesOf(now, person));
        return now.rights.isEmpty() ? 0 : 1000 * own / now.rights.size();
    }

    int lordIn(int house, int n) {
        return !isHouse(house) || n < 0 || n > 40 ? -1 : landlord(yearsOn(now, n, true, seed), house);
    }

    int then(int n, int what) {
        if (n < 0 || n > 40 || what < 0 || what > 2) {
            return -1;
        }
        return whoIs(yearsOn(now, n, true, seed), List.of("HOME", "AWAY", "DEAD").get(what));
    }

    int gotIn(int person, int n) {
        return !isPerson(person) || n < 0 || n > 40 ? -1 : yearsOn(now, n, true, seed).got.get(person);
    }

    int year(int person, int n, int s) {
        if (!isPerson(person) || n < 0 || n > 40 || s < 1 || s > 20) {
            return -1;
        }
        int times = 0;
        for (int i = 0; i < s; i++) {
            times += ownHouses(yearsOn(now, n, true, seed + i), person).isEmpty() ? 0 : 1;
        }
        return times;
    }

    // ---- letters

    int tell(int person, int other) {
        if (!isPerson(person) || !isPerson(other) || person == other || told.size() == 20) {
            return -1;
        }
        told.add(new int[] {person, other});
        return told.size() - 1;
    }

    int forget() {
        int many = told.size();
        told.clear();
        return many;
    }

    /** All orders as KNOWN by k, the lowest ahead; null: no such k. */
    private List<List<Integer>> listed(int k) {
        if (k < 0 || k > told.size()) {
            return null;
        }
        List<List<Integer>> orders = new ArrayList<>();
        permute(new ArrayList<>(), orders);
        orders.removeIf(o -> told.subList(0, k).stream().anyMatch(t -> o.indexOf(t[0]) > o.indexOf(t[1])));
        return orders;
    }

    private void permute(List<Integer> made, List<List<Integer>> orders) {
        if (made.size() == ages.size()) {
            orders.add(new ArrayList<>(made));
            return;
        }
        for (int p = 0; p < ages.size(); p++) {
            if (!made.contains(p)) {
                made.add(p);
                permute(made, orders);
                made.remove(made.size() - 1);
            }
        }
    }

    int orders(int k) {
        List<List<Integer>> orders = listed(k);
        return orders == null ? -1 : orders.size();
    }

    int first(int k, int person) {
        List<List<Integer>> orders = listed(k);
        return orders == null || !isPerson(person) ? -1
                : orders.stream().mapToInt(o -> o.indexOf(person)).min().orElse(-2);
    }

    int last(int k, int person) {
        List<List<Integer>> orders = listed(k);
        return orders == null || !isPerson(person) ? -1
                : orders.stream().mapToInt(o -> o.indexOf(person)).max().orElse(-2);
    }

    int placed(int k, int person, int at) {
        List<List<Integer>> orders = listed(k);
        return orders == null || !isPerson(person) || !isPerson(at) ? -1
                : (int) orders.stream().filter(o -> o.get(at) == person).count();
    }

    int before(int k, int person, int other) {
        List<List<Integer>> orders = listed(k);
        return orders == null || !isPerson(person) || !isPerson(other) || person == other ? -1
                : (int) orders.stream().filter(o -> o.indexOf(person) < o.indexOf(other)).count();
    }

    int sum(int k, int person) {
        List<List<Integer>> orders = listed(k);
        return orders == null || !isPerson(person) ? -1 : orders.stream().mapToInt(o -> o.indexOf(person)).sum();
    }

    int ahead(int k, int person) {
        List<List<Integer>> orders = listed(k);
        if (orders == null || !isPerson(person)) {
            return -1;
        }
        int bits = -1;
        for (List<Integer> o : orders) {
            bits &= bits(o.subList(0, o.indexOf(person)));
        }
        return orders.isEmpty() ? -2 : bits;
    }

    int foremost(int k) {
        List<List<Integer>> orders = listed(k);
        if (orders == null) {
            return -1;
        }
        if (orders.isEmpty() || ages.isEmpty()) {
            return -2;
        }
        int who = 0;
        for (int p = 1; p < ages.size(); p++) {
            who = placed(k, p, 0) > placed(k, who, 0) ? p : who;
        }
        return who;
    }

    int ask(int k) {
        List<List<Integer>> orders = listed(k);
        if (orders == null) {
            return -1;
        }
        int best = -2;
        int fewest = 0;
        for (int p = 0; p < ages.size() && !orders.isEmpty(); p++) {
            for (int q = p + 1; q < ages.size(); q++) {
                int one = p;
                int two = q;
                int left = (int) orders.stream().filter(o -> o.indexOf(one) < o.indexOf(two)).count();
                int worst = Math.max(left, orders.size() - left);
                if (best < 0 || worst < fewest) {
                    best = 10 * p + q;
                    fewest = worst;
                }
            }
        }
        return best;
    }

    int order(int k, int i, int at) {
        List<List<Integer>> orders = listed(k);
        return orders == null || i < 0 || i >= orders.size() || !isPerson(at) ? -1 : orders.get(i).get(at);
    }

    // ---- slots and numbers

    boolean hold(int slot) {
        if (slot < 0 || slot > 2) {
            return false;
        }
        slots.put(slot, now.copy());
        return true;
    }

    boolean restore(int slot) {
        if (!slots.containsKey(slot)) {
            return false;
        }
        now = slots.get(slot).copy();
        past.clear();
        return true;
    }

    int count(int what) {
        if (what < 0 || what > 16) {
            return -1;
        }
        List<Integer> lords = new ArrayList<>();
        List<Integer> without = new ArrayList<>();
        int rentsNow = 0;
        for (int p = 0; p < ages.size(); p++) {
            if (!ownHouses(now, p).isEmpty()) {
                lords.add(p);
            }
            if (housesOf(now, p) == 0) {
                without.add(p);
            }
        }
        for (int h = 0; h < rents.size(); h++) {
            rentsNow += rentsOf(now, h);
        }
        return new int[] {rents.size(), ages.size(), now.year, whoIs(now, "HOME"), whoIs(now, "AWAY"),
            whoIs(now, "DEAD"), bits(lords), now.got.stream().mapToInt(i -> i).sum(), tape.length(), past.size(),
            told.size(), slots.size(), now.rights.size(), rents.stream().mapToInt(i -> i).sum(),
            now.gone.stream().mapToInt(i -> i).sum(), rentsNow, bits(without)}[what];
    }
}
