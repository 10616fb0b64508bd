import java.io.IOException;
import java.nio.file.Files;
import java.nio.file.Path;
import java.util.ArrayList;
import java.util.List;
import java.util.regex.Matcher;
import java.util.regex.Pattern;

/** The document's sentences: a test names the one that it holds the class against, and none is left without a test. */
final class Sentences {
    private static final int PROMISES = 30;

    /** A piece of the document, and which of its signs have been named. */
    private static final class Part {
        final String name;
        final String words;
        final boolean[] named;

        Part(String name, String words) {
            this.name = name;
            this.words = words.replaceAll("\\s+", " ").strip();
            this.named = new boolean[this.words.length()];
        }
    }

    private final Check check = new Check();
    private final Part use;
    private final Part terms;
    private final List<Part> promises = new ArrayList<>();
    private String sentence = "";
    private int askedOfSentence = 1;

    Sentences(Path path) throws IOException {
        String document = Files.readString(path);
        use = new Part("What it is", piece(document, "\n\n(An object is used .*?)\n"));
        // Left out are the marks of a block, what numbers its pieces, and what the interface says ahead of its calls.
        terms = new Part("Terms", piece(document, "\n## Terms\n(.*?)\n## ").replaceAll("(?m)^```.*$", "")
            .replaceAll("(?m)^Ahead of the calls.*$", "").replaceAll("======== \\d ", ""));
        for (int i = 1; i <= PROMISES; i++) {
            // The call's own line is held against the class by LanguageTest.
            promises.add(new Part("Promise " + i, piece(document, "\n## Promise " + i + ": \\w.*?\n\n`.*?`:(.*?)\n## ")));
        }
    }

    private static String piece(String document, String pattern) {
        Matcher m = Pattern.compile(pattern, Pattern.DOTALL).matcher(document);
        return m.find() ? m.group(1) : "";
    }

    void use(String words) {
        name(use, words);
    }

    void term(String words) {
        name(terms, words);
    }

    void promise(int number, String words) {
        name(promises.get(number - 1), words);
    }

    private void name(Part part, String words) {
        endSentence();
        sentence = part.name + ": " + words;
        askedOfSentence = 0;
        int at = part.words.indexOf(words);
        check.holds("the document says just once \"" + sentence + "\"", at >= 0 && part.words.lastIndexOf(words) == at);
        for (int i = 0; i < words.length() && at >= 0; i++) {
            part.named[at + i] = true;
        }
    }

    private void endSentence() {
        check.holds("something is asked of \"" + sentence + "\"", askedOfSentence > 0);
    }

    void due(String call, long got, long want) {
        askedOfSentence++;
        check.due("\"" + sentence + "\": " + call, got, want);
    }

    void same(String call, Object got, Object want) {
        askedOfSentence++;
        check.holds("\"" + sentence + "\": " + call + " is " + got + ", due is " + want, got.equals(want));
    }

    private void allNamed(Part part) {
        StringBuilder left = new StringBuilder();
        for (int i = 0; i < part.named.length; i++) {
            left.append(part.named[i] ? ' ' : part.words.charAt(i));
        }
        String words = left.toString().replaceAll("\\s+", " ");
        check.holds("a test names all of " + part.name + ", left is: " + words, !words.matches(".*[A-Za-z0-9].*"));
        check.holds("the document has " + part.name, !part.words.isEmpty());
    }

    void end() {
        endSentence();
        allNamed(use);
        allNamed(terms);
        for (Part part : promises) {
            allNamed(part);
        }
        check.end();
    }
}
