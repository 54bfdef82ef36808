import java.io.IOException;
import java.io.UncheckedIOException;
import java.nio.file.Files;
import java.nio.file.Path;
import java.util.ArrayList;
import java.util.List;
import java.util.regex.Matcher;
import java.util.regex.Pattern;
import java.util.stream.Collectors;
import java.util.stream.Stream;

/** The tests against the document: they name only words that stand there, and each sentence is named by one of them. */
public final class DocumentTest {
    private static final Check CHECK = new Check("DocumentTest");
    private static final Path DOCUMENT = Path.of("../shared/DOC.md");
    private static final Path TESTS = Path.of("src/test/java");
    // The words in brackets behind CHECK.sentence, which may be joined from several texts.
    private static final Pattern NAMED = Pattern.compile("CHECK\\.sentence\\(((?:\\s*\\+?\\s*\"(?:[^\"\\\\]|\\\\.)*\")+)\\)");
    private static final Pattern TEXT = Pattern.compile("\"((?:[^\"\\\\]|\\\\.)*)\"");
    private static final int PROMISES = 27;

    public static void main(String[] args) throws IOException {
        String document = Files.readString(DOCUMENT);
        List<String> named = named();
        for (String words : named) {
            CHECK.that("the document says: " + words, plain(document).contains(words));
        }
        for (String sentence : sentencesOfTerms(document)) {
            isNamed(named, sentence);
        }
        int promises = 0;
        for (String promise : document.split("\n## ")) {
            if (promise.startsWith("Promise ")) {
                promises++;
                sentencesOfPromise(promise).forEach(sentence -> isNamed(named, sentence));
            }
        }
        CHECK.due("promises", promises, PROMISES);
        CHECK.done();
    }

    private static void isNamed(List<String> named, String sentence) {
        CHECK.that("a test names: " + sentence, named.stream().anyMatch(words -> words.contains(sentence)));
    }

    private static List<String> named() throws IOException {
        try (Stream<Path> files = Files.list(TESTS)) {
            return files.filter(file -> file.toString().endsWith("Test.java")).flatMap(DocumentTest::namedIn)
                .collect(Collectors.toList());
        }
    }

    private static Stream<String> namedIn(Path file) {
        try {
            return NAMED.matcher(Files.readString(file)).results().map(found -> joined(found.group(1)));
        } catch (IOException e) {
            throw new UncheckedIOException(e);
        }
    }

    private static String joined(String literals) {
        StringBuilder words = new StringBuilder();
        Matcher text = TEXT.matcher(literals);
        while (text.find()) {
            words.append(text.group(1));
        }
        return words.toString().replace("\\\"", "\"");
    }

    /** In one line, without the marks of names. */
    private static String plain(String text) {
        return text.replace("`", "").replaceAll("\\s+", " ");
    }

    /** The sentences of a text, each of which ends with a point or with a point and a bracket. */
    private static List<String> sentences(String text) {
        return List.of(plain(text).trim().split("(?<=\\.|\\.\\)) (?=[A-Za-z(])"));
    }

    private static List<String> sentencesOfTerms(String document) {
        List<String> found = new ArrayList<>();
        String terms = document.substring(document.indexOf("\n## Terms"), document.indexOf("\nThe constants:"));
        for (String paragraph : terms.split("\n+")) {
            boolean heading = paragraph.startsWith("##") || paragraph.equals(paragraph.toUpperCase());
            if (!heading) {
                found.addAll(sentences(paragraph));
            }
        }
        return found;
    }

    /** What it does, behind its name and a colon, and what it returns; not that it is an act, and not its arguments. */
    private static List<String> sentencesOfPromise(String promise) {
        List<String> found = new ArrayList<>();
        for (String line : promise.split("\n+")) {
            if (line.startsWith("Returns ")) {
                found.addAll(sentences(line));
            } else if (line.startsWith("`") && !line.contains("`: - ")) {
                found.addAll(sentences(line.substring(line.indexOf("`: ") + 3)));
            }
        }
        found.remove("This is an act.");
        return found;
    }
}
