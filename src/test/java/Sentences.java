import java.io.IOException;
import java.nio.file.Files;
import java.nio.file.Path;
import java.util.ArrayList;
import java.util.List;
import java.util.Map;
import java.util.TreeMap;

/** The document's sentences as the tests quote them, each with the checks that hold it. */
final class Sentences {
    private final Map<String, List<String>> quotes = new TreeMap<>();
    private String sentence = "no sentence yet";
    private int checksOfSentence = 1;
    private int sentences = 0;
    private int made = 0;
    private int wrong = 0;

    /** The checks that follow hold this sentence of a promise. */
    void promise(int number, String words) {
        begin("promise " + number, "promise " + number, words);
    }

    /** The checks that follow hold this sentence, which stands ahead of the promises it binds. */
    void description(String promises, String words) {
        begin(Document.DESCRIPTION, "promises " + promises, words);
    }

    private void begin(String section, String promises, String words) {
        endSentence();
        quotes.computeIfAbsent(section, any -> new ArrayList<>()).add(Document.plain(words));
        sentence = promises + ", \"" + words + "\"";
        checksOfSentence = 0;
        sentences++;
    }

    private void endSentence() {
        if (checksOfSentence == 0) {
            wrong(sentence + " is not checked");
        }
    }

    private void wrong(String what) {
        wrong++;
        System.out.println(what);
    }

    void due(String call, long got, long want) {
        made++;
        checksOfSentence++;
        if (got != want) {
            wrong(sentence + ": " + call + " answered " + got + ", due is " + want);
        }
    }

    void due(String call, boolean got, boolean want) {
        due(call, got ? 1 : 0, want ? 1 : 0);
    }

    void dueText(String call, String got, String want) {
        made++;
        checksOfSentence++;
        if (!got.equals(want)) {
            wrong(sentence + ": " + call + " answered \"" + got + "\", due is \"" + want + "\"");
        }
    }

    /** Every clause of the document is quoted, but for the plain ones; and no quote is made up. */
    void compare(Path path, List<String> plainClauses) throws IOException {
        if (!Files.exists(path)) {
            System.out.println("no " + path + ": the quotes are not compared");
            return;
        }
        Document document = new Document(Files.readString(path));
        for (String section : document.sections()) {
            List<String> quoted = quotes.getOrDefault(section, List.of());
            for (String clause : document.clausesOf(section)) {
                boolean covered = plainClauses.contains(clause);
                for (String quote : quoted) {
                    covered |= quote.contains(clause);
                }
                if (!covered) {
                    wrong(section + ": no test quotes \"" + clause + "\"");
                }
            }
            for (String quote : quoted) {
                if (!document.textOf(section).contains(quote)) {
                    wrong(section + ": the document does not say \"" + quote + "\"");
                }
            }
        }
    }

    void end() {
        endSentence();
        System.out.println(sentences + " sentences, " + made + " checks, " + wrong + " wrong");
        if (wrong > 0) {
            System.exit(1);
        }
    }
}
