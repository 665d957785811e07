import java.util.Random;

/** All promises: runs by chance, each call answered by the program and by the model. */
public final class ModelTest {
    private static final int RUNS = 150;
    private static final int CALLS = 200;
    private static final String[] NAMES = {"feed", "back", "read", "place", "house", "person", "send", "call", "bury",
        "give", "years", "undo", "heir", "gain", "best", "loss", "race", "duel", "rest", "fill", "richest", "eldest",
        "agents", "lords", "bound", "idle", "share", "lordIn", "then", "gotIn", "year", "tell", "forget", "orders",
        "first", "last", "placed", "before", "sum", "ahead", "foremost", "ask", "order", "hold", "restore", "count"};

    private final Random random;
    private final RandomTexts texts;
    private final AbsentLords x = new AbsentLords();
    private final Model m = new Model();
    private final Due due;
    private final int run;

    private ModelTest(int run, Due due) {
        this.run = run;
        this.due = due;
        random = new Random(run);
        texts = new RandomTexts(random);
    }

    public static void main(String[] args) {
        Due due = new Due();
        int runs = args.length > 0 ? Integer.parseInt(args[0]) : RUNS;
        for (int run = 0; run < runs; run++) {
            new ModelTest(run, due).go();
        }
        due.end();
    }

    private void go() {
        readSome();
        for (int i = 0; i < CALLS; i++) {
            if (random.nextInt(90) == 0) {
                readSome();
            }
            String name = NAMES[random.nextInt(NAMES.length)];
            if (!name.equals("forget") || random.nextInt(8) == 0) {
                ask(name);
            }
            if (random.nextInt(20) == 0) {
                ask("tell");
            }
        }
    }

    private void is(String call, long got, long want) {
        due.is("run " + run + ": " + call, got, want);
    }

    private void is(String call, boolean got, boolean want) {
        due.is("run " + run + ": " + call, got, want);
    }

    /** Mostly until there is something to ask for. */
    private void readSome() {
        readOne();
        for (int i = 0; i < 10 && run % 10 != 0 && (m.count(0) < 2 || m.count(1) < 3 || m.count(12) < 4); i++) {
            readOne();
        }
    }

    private void readOne() {
        is("back all", x.back(x.count(8)), m.back(m.count(8)));
        byte[] text = Due.bytes(texts.text());
        for (int at = 0; at < text.length; at += 20) {
            int[] w = new int[5];
            for (int i = 0; i < 20; i++) {
                w[i / 4] = w[i / 4] << 8 | (at + i < text.length ? text[at + i] & 255 : 0);
            }
            is("feed", x.feed(w[0], w[1], w[2], w[3], w[4]), m.feed(w));
        }
        int over = (20 - text.length % 20) % 20;
        is("back", x.back(over), m.back(over));
        String told = new String(text, java.nio.charset.StandardCharsets.ISO_8859_1);
        is("read of " + told, x.read(), m.read());
        is("place in " + told, x.place(), m.place());
    }

    /** Mostly one that there is. */
    private int some(int many) {
        return random.nextInt(12) == 0 ? wild() : random.nextInt(Math.max(1, many));
    }

    private int wild() {
        int[] wilds = {-1, -2, 7, 5, 40, 41, 31, 32, 33, 20, 21, Integer.MAX_VALUE, Integer.MIN_VALUE};
        return wilds[random.nextInt(wilds.length)];
    }

    private void ask(String name) {
        int p = some(m.count(1));
        int q = some(m.count(1));
        int h = some(m.count(0));
        int n = some(random.nextBoolean() ? 5 : 41);
        int k = random.nextInt(8) == 0 ? some(21) : some(m.count(10) + 1);
        int w = some(4);
        String call = name + " p " + p + " q " + q + " h " + h + " n " + n + " k " + k + " w " + w;
        switch (name) {
            case "feed":
                is(call, x.feed(p, q, h, n, k), m.feed(p, q, h, n, k));
                break;
            case "back":
                is(call, x.back(n), m.back(n));
                break;
            case "read":
                if (random.nextInt(12) == 0) {
                    is(call, x.read(), m.read());
                    readSome();
                }
                break;
            case "place":
                is(call, x.place(), m.place());
                break;
            case "house":
                is(call, x.house(h, w), m.house(h, w));
                break;
            case "person":
                int what = some(9);
                is(call + " what " + what, x.person(p, what), m.person(p, what));
                break;
            case "count":
                int of = some(17);
                is(call + " of " + of, x.count(of), m.count(of));
                break;
            case "send":
                is(call, x.send(p), m.send(p));
                break;
            case "call":
                is(call, x.call(p), m.call(p));
                break;
            case "bury":
                if (random.nextInt(4) == 0) {
                    is(call, x.bury(p), m.bury(p));
                }
                break;
            case "give":
                boolean given = random.nextBoolean();
                is(call + given, x.give(p, h, given), m.give(p, h, given));
                break;
            case "years":
                is(call, x.years(n), m.years(n));
                break;
            case "undo":
                is(call, x.undo(), m.undo());
                break;
            case "hold":
                is(call, x.hold(w), m.hold(w));
                break;
            case "restore":
                is(call, x.restore(w), m.restore(w));
                break;
            default:
                askWhatWouldBe(name, call, p, q, h, n, k, w);
                break;
        }
    }

    private void askWhatWouldBe(String name, String call, int p, int q, int h, int n, int k, int w) {
        int two = some(2);
        switch (name) {
            case "heir":
                is(call, x.heir(h), m.heir(h));
                break;
            case "gain":
                is(call, x.gain(p, n), m.gain(p, n));
                break;
            case "best":
                is(call + two, x.best(p, n, two), m.best(p, n, two));
                break;
            case "loss":
                is(call, x.loss(p, n), m.loss(p, n));
                break;
            case "race":
                is(call, x.race(h), m.race(h));
                break;
            case "duel":
                is(call + two, x.duel(p, q, n, w, two), m.duel(p, q, n, w, two));
                break;
            case "rest":
                is(call, x.rest(p, q, n), m.rest(p, q, n));
                break;
            case "fill":
                is(call + two, x.fill(two), m.fill(two));
                break;
            case "richest":
                is(call + two, x.richest(two), m.richest(two));
                break;
            case "eldest":
                is(call + two, x.eldest(two), m.eldest(two));
                break;
            case "agents":
                is(call + two, x.agents(two), m.agents(two));
                break;
            case "lords":
                int i = random.nextInt(4) == 0 ? -1 : h;
                is(call + " i " + i, x.lords(i), m.lords(i));
                break;
            case "bound":
                is(call, x.bound(p), m.bound(p));
                break;
            case "idle":
                is(call, x.idle(), m.idle());
                break;
            case "share":
                is(call, x.share(p), m.share(p));
                break;
            case "lordIn":
                is(call, x.lordIn(h, n), m.lordIn(h, n));
                break;
            case "then":
                is(call, x.then(n, w), m.then(n, w));
                break;
            case "gotIn":
                is(call, x.gotIn(p, n), m.gotIn(p, n));
                break;
            case "year":
                int s = 1 + some(random.nextInt(10) == 0 ? 20 : 4);
                is(call + " s " + s, x.year(p, n, s), m.year(p, n, s));
                break;
            default:
                askLetters(name, call, p, q, k);
                break;
        }
    }

    /** Mostly so that what is TOLD can be so. */
    private void tellSome(int p, int q) {
        boolean turned = random.nextInt(15) > 0 && p * 3 % 7 > q * 3 % 7;
        is("tell " + p + " " + q, x.tell(turned ? q : p, turned ? p : q), m.tell(turned ? q : p, turned ? p : q));
    }

    private void askLetters(String name, String call, int p, int q, int k) {
        int at = some(m.count(1));
        switch (name) {
            case "tell":
                tellSome(p, q);
                break;
            case "forget":
                is(call, x.forget(), m.forget());
                break;
            case "orders":
                is(call, x.orders(k), m.orders(k));
                break;
            case "first":
                is(call, x.first(k, p), m.first(k, p));
                break;
            case "last":
                is(call, x.last(k, p), m.last(k, p));
                break;
            case "placed":
                is(call + " at " + at, x.placed(k, p, at), m.placed(k, p, at));
                break;
            case "before":
                is(call, x.before(k, p, q), m.before(k, p, q));
                break;
            case "sum":
                is(call, x.sum(k, p), m.sum(k, p));
                break;
            case "ahead":
                is(call, x.ahead(k, p), m.ahead(k, p));
                break;
            case "foremost":
                is(call, x.foremost(k), m.foremost(k));
                break;
            case "ask":
                is(call, x.ask(k), m.ask(k));
                break;
            case "order":
                int i = some(m.orders(k) + 1);
                is(call + " i " + i + " at " + at, x.order(k, i, at), m.order(k, i, at));
                break;
            default:
                throw new IllegalStateException(name);
        }
    }
}
