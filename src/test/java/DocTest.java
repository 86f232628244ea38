import java.io.IOException;
import java.nio.file.DirectoryStream;
import java.nio.file.Files;
import java.nio.file.Path;
import java.util.BitSet;
import java.util.Map;
import java.util.TreeMap;
import java.util.regex.Matcher;
import java.util.regex.Pattern;

/**
 * Every sentence that a test holds stands in the document, and every letter of each promise and of the terms
 * is held by a test; run at the project's root.
 */
public final class DocTest {
    private static final Path DOC = Path.of("../shared/DOC.md");
    private static final Path TESTS = Path.of("src/test/java");
    private static final int PROMISES = 29;
    private static final Pattern PROMISE = Pattern.compile("## Promise (\\d+): [^\\n]*\\n+`[^`]*`: ([^#]*)");
    private static final Pattern TOLD_WITH_TITLE = Pattern.compile("======== 1 (.*?)\\n\\nAn object is used", Pattern.DOTALL);
    private static final Pattern TERMS = Pattern.compile("## Terms(.*?)Ahead of the calls `write`", Pattern.DOTALL);
    private static final String NOT_TOLD = "```text|```|={2,} \\d";
    private static final Pattern SAYS = Pattern.compile("Due\\.says\\((\\d+),\\s*((?:\"[^\"]*\"\\s*\\+?\\s*)+)\\)");

    private final String terms;
    private final BitSet heldOfTerms = new BitSet();
    private final Map<Integer, String> promises = new TreeMap<>();
    private final Map<Integer, BitSet> heldOfPromises = new TreeMap<>();

    private DocTest(String doc) {
        terms = plain(found(TOLD_WITH_TITLE, doc) + " " + found(TERMS, doc));
        Matcher matcher = PROMISE.matcher(doc);
        while (matcher.find()) {
            promises.put(Integer.valueOf(matcher.group(1)), plain(matcher.group(2)));
            heldOfPromises.put(Integer.valueOf(matcher.group(1)), new BitSet());
        }
    }

    public static void main(String[] args) throws IOException {
        DocTest test = new DocTest(Files.readString(DOC));
        Due.due("promises", test.promises.size(), PROMISES);
        try (DirectoryStream<Path> files = Files.newDirectoryStream(TESTS, "*Test.java")) {
            for (Path file : files) {
                test.readSentences(file.getFileName().toString(), Files.readString(file));
            }
        }
        for (int promise : test.promises.keySet()) {
            allHeld("promise " + promise, test.promises.get(promise), test.heldOfPromises.get(promise));
        }
        allHeld("the terms", test.terms, test.heldOfTerms);
        Due.end();
    }

    private static String found(Pattern pattern, String doc) {
        Matcher matcher = pattern.matcher(doc);
        boolean there = matcher.find();
        Due.due("the document has " + pattern, there ? 1 : 0, 1);
        return there ? matcher.group(1) : "";
    }

    private static String plain(String text) {
        return text.replaceAll(NOT_TOLD, " ").replaceAll("\\s+", " ").trim();
    }

    private void readSentences(String file, String source) {
        Matcher matcher = SAYS.matcher(source);
        int read = 0;
        while (matcher.find()) {
            int promise = Integer.parseInt(matcher.group(1));
            String sentence = matcher.group(2).replaceAll("\"\\s*\\+\\s*\"", "").trim();
            hold(file, promise, sentence.substring(1, sentence.length() - 1));
            read++;
        }
        int written = source.split("Due\\.says\\(", -1).length - 1;
        Due.due("sentences of " + file + " that could be read", read, file.equals("DocTest.java") ? read : written);
    }

    private void hold(String file, int promise, String sentence) {
        boolean ofPromise = mark(promises.getOrDefault(promise, ""), heldOfPromises.getOrDefault(promise, new BitSet()), sentence);
        boolean ofTerms = mark(terms, heldOfTerms, sentence);
        Due.due(file + ", promise " + promise + ": the document says \"" + sentence + "\"", ofPromise || ofTerms ? 1 : 0, 1);
    }

    private static boolean mark(String text, BitSet held, String sentence) {
        int place = text.indexOf(sentence);
        for (int from = place; from >= 0; from = text.indexOf(sentence, from + 1)) {
            held.set(from, from + sentence.length());
        }
        return place >= 0;
    }

    private static void allHeld(String name, String text, BitSet held) {
        StringBuilder open = new StringBuilder();
        for (int place = 0; place < text.length(); place++) {
            open.append(held.get(place) ? ' ' : text.charAt(place));
        }
        Due.same("what no test holds of " + name, plain(open.toString()), "");
    }
}
