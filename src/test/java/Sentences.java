import java.io.IOException;
import java.nio.file.Files;
import java.nio.file.Path;
import java.util.ArrayList;
import java.util.List;

/** What sentences.txt says: the document's sentences, who tests each, and what would break it. */
final class Sentences {
    static final Path FILE = Path.of("src/test/sentences.txt");

    /** What stands in the program, and what is put in its place. */
    record Change(String old, String other) { }

    /** A method of a test class, and the changes that it must see. */
    record Look(String test, String method, List<Change> changes) { }

    record Sentence(String words, List<Look> looks) { }

    private Sentences() {
    }

    static List<Sentence> all() throws IOException {
        List<Sentence> sentences = new ArrayList<>();
        List<Look> looks = List.of();
        List<Change> changes = List.of();
        String old = "";
        for (String line : Files.readAllLines(FILE)) {
            String rest = line.substring(Math.min(2, line.length()));
            switch (line.isEmpty() ? '#' : line.charAt(0)) {
                case '@':
                    looks = new ArrayList<>();
                    sentences.add(new Sentence(rest, looks));
                    break;
                case 't':
                    changes = new ArrayList<>();
                    String[] parts = rest.split("\\.");
                    looks.add(new Look(parts[0], parts[1], changes));
                    break;
                case '-':
                    old = rest;
                    break;
                case '+':
                    changes.add(new Change(old, rest));
                    break;
                case '#':
                    break;
                default:
                    throw new IllegalStateException(line);
            }
        }
        return sentences;
    }
}
