/** What a test of texts and their FAULTS has at hand. */
abstract class Faults {
    static final int SYNTAX = 1;
    static final int ROOM = 2;
    static final int TWICE = 3;
    static final int NAME = 4;
    static final int WRONG = 5;
    static final String[] WORDS = {"house", "person", "right", "away", "goes", "comes", "dies", "rents", "seed",
        "if", "then", "else", "rent", "age", "gone", "got", "year", "rights", "lord", "which", "home"};

    private static final int MOST_TOLD = 300;

    final Due due = new Due();

    void none(String text) {
        fault(text, 0, AbsentLords.NONE);
    }

    void fault(String text, int number, int place) {
        AbsentLords x = new AbsentLords();
        String told = text.length() > MOST_TOLD ? ".." + text.substring(text.length() - MOST_TOLD) : text;
        due.is("read of " + told, Due.read(x, text), number);
        due.is("place in " + told, x.place(), place);
        due.is("tape behind " + told, x.count(8), 0);
    }

    /** The FAULT is where the sign ^ stands, which is taken out. */
    void at(String marked, int number) {
        int place = marked.indexOf('^');
        fault(marked.substring(0, place) + marked.substring(place + 1), number, place);
    }

    static String many(int many, String tell) {
        StringBuilder text = new StringBuilder();
        for (int i = 0; i < many; i++) {
            text.append(tell.replace('#', (char) ('a' + i)));
        }
        return text.toString();
    }

    /** TELLs of that many TOKENS, 6 at least, without FAULT. */
    static String filled(int tokens) {
        int threes = tokens * 3 % 4;
        return many(threes, "seed1;") + many((tokens - 3 * threes) / 4, "goes=1;");
    }
}
