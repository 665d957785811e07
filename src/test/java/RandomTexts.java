import java.util.ArrayList;
import java.util.List;
import java.util.Random;

/** Texts by chance: mostly right ones, some with a FAULT put in. */
final class RandomTexts {
    private static final String[] VARS =
        {"rent", "age", "gone", "got", "year", "rights", "lord", "which", "home"};
    private static final String[] ODD = {"house", "person", "right", "away", "goes", "comes", "dies", "rents", "seed",
        "if", "then", "else", "rent", "home", ";", "=", "+", "-", "*", "/", "<", "(", ")", "7", "100", "9999", "00000",
        "a", "abcdefgh", "abcdefghi", ".", "A", "_", "\u00e9", "\u0000"};
    private static final String[] BLANKS = {" ", "  ", "\t", "\n", "\r", " \r\n\t"};

    private final Random random;

    RandomTexts(Random random) {
        this.random = random;
    }

    String text() {
        List<String> tokens = new ArrayList<>();
        int houses = many(5);
        int people = many(7);
        for (int h = 0; h < houses; h++) {
            tell(tokens, "house", "h" + letter(h), "" + random.nextInt(100));
        }
        for (int p = 0; p < people; p++) {
            tell(tokens, "person", "p" + letter(p), "" + random.nextInt(100));
        }
        if (houses > 0 && people > 0) {
            rights(tokens, houses, people);
        }
        for (int i = random.nextInt(6); i > 0 && people > 0; i--) {
            tell(tokens, "away", "p" + letter(random.nextInt(people)), "" + random.nextInt(random.nextBoolean() ? 4 : 100));
        }
        for (String law : new String[] {"goes", "comes", "rents"}) {
            if (random.nextInt(4) > 0) {
                law(tokens, law);
            }
        }
        dies(tokens);
        if (random.nextBoolean()) {
            tell(tokens, "seed", "" + random.nextInt(10000));
        }
        if (random.nextInt(3) == 0) {
            spoil(tokens);
        }
        return joined(tokens);
    }

    private int many(int most) {
        int chance = random.nextInt(20);
        return chance == 0 ? most + 1 : chance < 6 ? most : random.nextInt(most + 1);
    }

    private void rights(List<String> tokens, int houses, int people) {
        boolean[] there = new boolean[64];
        int wanted = random.nextInt(25);
        for (int i = 0; i < wanted; i++) {
            int h = random.nextInt(houses);
            int p = random.nextInt(people);
            if (!there[8 * h + p] || random.nextInt(300) == 0) {
                there[8 * h + p] = true;
                tell(tokens, "right", "p" + letter(p), "h" + letter(h));
            }
        }
    }

    private static char letter(int i) {
        return (char) ('a' + i);
    }

    private static void tell(List<String> tokens, String... tell) {
        tokens.addAll(List.of(tell));
        tokens.add(";");
    }

    private void law(List<String> tokens, String name) {
        tokens.add(name);
        tokens.add("=");
        int ifs = random.nextInt(40) == 0 ? 5 : random.nextInt(5);
        for (int i = 0; i < ifs; i++) {
            tokens.add("if");
            sum(tokens, 0);
            tokens.add("<");
            sum(tokens, 0);
            tokens.add("then");
            sum(tokens, 0);
            tokens.add("else");
        }
        sum(tokens, 0);
        tokens.add(";");
    }

    /** Mostly a mild one, as little is left to compare once all are DEAD. */
    private void dies(List<String> tokens) {
        int chance = random.nextInt(8);
        if (chance == 0) {
            law(tokens, "dies");
        } else if (chance < 4) {
            tell(tokens, "dies", "=", "age", "/", "" + (10 + random.nextInt(30)), "-", "2");
        } else if (chance < 6) {
            tell(tokens, "dies", "=", "" + random.nextInt(6));
        }
    }

    private void sum(List<String> tokens, int depth) {
        unit(tokens, depth);
        while (random.nextInt(3) == 0) {
            tokens.add("+-*/".charAt(random.nextInt(4)) + "");
            unit(tokens, depth);
        }
    }

    private void unit(List<String> tokens, int depth) {
        int chance = random.nextInt(10);
        if (chance == 0 && depth < 8) {
            int more = random.nextInt(30) == 0 ? 7 : 1;
            for (int i = 0; i < more; i++) {
                tokens.add("(");
            }
            sum(tokens, depth + more);
            for (int i = 0; i < more; i++) {
                tokens.add(")");
            }
        } else if (chance < 5) {
            tokens.add(VARS[random.nextInt(VARS.length)]);
        } else {
            tokens.add("" + random.nextInt(random.nextInt(5) == 0 ? 10000 : 60));
        }
    }

    private void spoil(List<String> tokens) {
        int times = 1 + random.nextInt(2);
        for (int i = 0; i < times && !tokens.isEmpty(); i++) {
            int at = random.nextInt(tokens.size());
            switch (random.nextInt(9)) {
                case 5:
                case 6:
                case 7:
                case 8:
                    disturb(tokens, at);
                    break;
                case 0:
                    tokens.remove(at);
                    break;
                case 1:
                    tokens.add(at, ODD[random.nextInt(ODD.length)]);
                    break;
                case 2:
                    tokens.set(at, ODD[random.nextInt(ODD.length)]);
                    break;
                case 3:
                    tokens.set(at, tokens.get(random.nextInt(tokens.size())));
                    break;
                default:
                    tokens.subList(at, tokens.size()).clear();
                    break;
            }
        }
    }

    /** Another NAME or INT in place of the next one: the SYNTAX stays right. */
    private void disturb(List<String> tokens, int from) {
        for (int at = from; at < tokens.size(); at++) {
            if (tokens.get(at).matches("[0-9]+")) {
                tokens.set(at, new String[] {"99", "100", "0099", "0100", "9999"}[random.nextInt(5)]);
                return;
            }
            if (tokens.get(at).length() == 2 && tokens.get(at).matches("[ph][a-h]")) {
                tokens.set(at, (random.nextInt(3) == 0 ? "h" : "p") + letter(random.nextInt(8)));
                return;
            }
        }
    }

    private String joined(List<String> tokens) {
        StringBuilder text = new StringBuilder();
        boolean wide = random.nextInt(4) == 0;
        for (String token : tokens) {
            boolean must = text.length() > 0 && isPart(text.charAt(text.length() - 1)) && isPart(token.charAt(0));
            if (must || wide && random.nextInt(3) == 0) {
                text.append(wide ? BLANKS[random.nextInt(BLANKS.length)] : " ");
            }
            text.append(token);
        }
        if (text.length() > 1980) {
            text.setLength(1980);
        }
        return text.toString();
    }

    private static boolean isPart(char sign) {
        return sign >= 'a' && sign <= 'z' || sign >= '0' && sign <= '9';
    }
}
