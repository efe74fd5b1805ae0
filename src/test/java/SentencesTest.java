import java.io.IOException;
import java.nio.file.Files;
import java.nio.file.Path;
import java.util.Map;
import java.util.TreeMap;
import java.util.regex.Matcher;
import java.util.regex.Pattern;
import java.util.stream.Stream;

/** Every sentence of the document's terms and promises is named by a test, as it stands there. */
public final class SentencesTest {
    private static final Path DOCUMENT = Path.of("../shared/DOC.md");
    private static final Path TESTS = Path.of("src/test/java");
    private static final Pattern NAMED = Pattern.compile("due\\.(promise|term)\\((\\d+), \"([^\"]*)\"\\)");
    private static final Map<String, Section> sections = new TreeMap<>();
    private static int named = 0;
    private static int wrong = 0;

    /** A promise's text, or a numbered piece of the terms; what tests name of it. */
    private static final class Section {
        final String text;
        final boolean[] tested;

        Section(String text) {
            this.text = text.replaceAll("```(text)?", " ").replaceAll("\\s+", " ").trim();
            tested = new boolean[this.text.length()];
        }

        void name(String piece, String where) {
            int at = text.indexOf(piece);
            due(at >= 0, where + ": this does not stand in the document: " + piece);
            due(at < 0 || text.indexOf(piece, at + 1) < 0, where + ": this stands there twice: " + piece);
            for (int i = Math.max(at, 0); at >= 0 && i < at + piece.length(); i++) tested[i] = true;
        }

        String untested() {
            StringBuilder left = new StringBuilder();
            for (int i = 0; i < tested.length; i++) left.append(tested[i] ? ' ' : text.charAt(i));
            return left.toString().replaceAll("[\\s.,:;]+", " ").trim();
        }
    }

    public static void main(String[] args) throws IOException {
        readDocument(Files.readString(DOCUMENT));
        try (Stream<Path> files = Files.list(TESTS)) {
            for (Path file : files.filter(f -> f.toString().endsWith("Test.java")).sorted().toList()) readTests(file);
        }
        for (Map.Entry<String, Section> s : sections.entrySet()) {
            due(s.getValue().untested().isEmpty(), s.getKey() + ": no test names " + s.getValue().untested());
        }
        System.out.println("SentencesTest: " + named + " pieces of " + sections.size() + " sections are named, " + wrong + " faults");
        if (wrong != 0) System.exit(1);
    }

    private static void due(boolean holds, String rule) {
        if (holds) return;
        wrong++;
        System.out.println("SentencesTest: " + rule);
    }

    private static void readDocument(String document) {
        Matcher promises = Pattern.compile("(?s)## Promise (\\d+): .*?\\n\\n`[^`]*`: (.*?)\\n\\n(?=## )").matcher(document);
        while (promises.find()) sections.put("promise " + promises.group(1), new Section(promises.group(2)));
        int from = document.indexOf("## Terms") + "## Terms".length();
        String[] terms = document.substring(from, document.indexOf("Ahead of the calls", from)).split("======== \\d");
        for (int i = 0; i < terms.length; i++) sections.put("term " + i, new Section(terms[i]));
        due(sections.size() == 45 + 6, "the document is not read: " + sections.keySet());
    }

    private static void readTests(Path file) throws IOException {
        String source = Files.readString(file);
        Matcher names = NAMED.matcher(source);
        while (names.find()) {
            named++;
            Section section = sections.get(names.group(1) + " " + names.group(2));
            due(section != null, file + ": there is no " + names.group(1) + " " + names.group(2));
            if (section != null) section.name(names.group(3), file.getFileName().toString());
        }
        due(Pattern.compile("due\\.(promise|term)\\(").matcher(source).results().count() == NAMED.matcher(source).results().count(),
            file + ": a piece is not written out in one text");
    }
}
