import java.io.IOException;
import java.nio.file.Files;
import java.nio.file.Path;
import java.util.List;

/** sentences.txt holds every sentence of "## Terms" and of the promises, and each has a test that is run. */
public final class SentencesTest {
    private static final Path DOCUMENT = Path.of("../shared/DOC.md");
    private static final int SHOWN = 60;

    private final Due due = new Due();

    public static void main(String[] args) throws IOException {
        SentencesTest test = new SentencesTest();
        List<Sentences.Sentence> sentences = Sentences.all();
        test.wordForWord(sentences);
        for (Sentences.Sentence sentence : sentences) {
            test.looked(sentence);
        }
        test.due.end();
    }

    private void wordForWord(List<Sentences.Sentence> sentences) throws IOException {
        StringBuilder told = new StringBuilder();
        sentences.forEach(sentence -> told.append(sentence.words()).append('\n'));
        String want = words(document());
        String got = words(told.toString());
        int alike = 0;
        while (alike < want.length() && alike < got.length() && want.charAt(alike) == got.charAt(alike)) {
            alike++;
        }
        due.is("sentences.txt and the document from where they differ", from(got, alike), from(want, alike));
    }

    private static String document() throws IOException {
        String all = Files.readString(DOCUMENT);
        String part = all.substring(all.indexOf("## Terms"), all.indexOf("## Not promised"));
        return part.replaceAll("(?m)^(##|```).*$", "");
    }

    private static String words(String text) {
        return text.trim().replaceAll("\\s+", " ");
    }

    private static String from(String text, int at) {
        return text.substring(at, Math.min(text.length(), at + SHOWN));
    }

    private void looked(Sentences.Sentence sentence) throws IOException {
        due.about(sentence.words());
        due.is("it has a test", sentence.looks().isEmpty(), false);
        for (Sentences.Look look : sentence.looks()) {
            String source = Files.readString(Path.of("src/test/java", look.test() + ".java"));
            String name = look.test() + "." + look.method();
            due.is(name + " is there", source.contains("private void " + look.method() + "() {"), true);
            due.is(name + " is run", source.contains("        test." + look.method() + "();\n"), true);
        }
    }
}
