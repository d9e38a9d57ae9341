import java.io.IOException;
import java.nio.file.DirectoryStream;
import java.nio.file.Files;
import java.nio.file.Path;
import java.util.BitSet;
import java.util.List;
import java.util.TreeSet;
import java.util.regex.Matcher;
import java.util.regex.Pattern;

/**
 * Whether each sentence of the document that asks something is quoted over a test that looks at it, word
 * by word, and whether each quote over a test stands in the document.
 */
public final class DocumentTest {
    /** What asks nothing of the class. The face is looked at by FaceTest, which reads it there. */
    private static final List<String> ASKS_NOTHING = List.of("what later calls answer is free.");
    private static final List<String> SECTIONS_THAT_ASK_NOTHING = List.of("ThinExtents", "Not promised");

    private static final Pattern TEST = Pattern.compile(
            "/\\*\\*((?:(?!\\*/).)*)\\*/\\s*static void (\\w+)\\(\\)", Pattern.DOTALL);
    private static final Pattern QUOTE = Pattern.compile("\"([^\"]*)\"");
    private static final Pattern PROMISE = Pattern.compile("Promise \\d+");
    private static final Pattern CODE = Pattern.compile("```.*?```|`[^`]*`:?", Pattern.DOTALL);
    private static final Pattern UNQUOTED = Pattern.compile("[^\0]*[A-Za-z0-9][^\0]*");

    private static Document document;
    private static final BitSet QUOTED = new BitSet();

    private DocumentTest() {
    }

    public static void main(String[] args) throws IOException {
        document = Document.read();
        for (Path file : testFiles()) {
            quotesOf(file);
        }
        for (Document.Section section : document.sections) {
            if (!SECTIONS_THAT_ASK_NOTHING.contains(section.title)) {
                allIsQuoted(section);
            }
        }
        Check.due("sections", 32, document.sections.size());
        Check.end();
    }

    private static TreeSet<Path> testFiles() throws IOException {
        TreeSet<Path> files = new TreeSet<>();
        try (DirectoryStream<Path> found = Files.newDirectoryStream(Path.of("src/test/java"), "*Test.java")) {
            found.forEach(files::add);
        }
        return files;
    }

    private static void quotesOf(Path file) throws IOException {
        String source = Files.readString(file);
        if (!source.contains("Sentences.run(")) {
            return;
        }
        Matcher test = TEST.matcher(source);
        while (test.find()) {
            String comment = test.group(1).replaceAll("\n\\s*\\* ?", " ");
            Matcher quote = QUOTE.matcher(comment);
            while (quote.find()) {
                mark(file.getFileName() + ", " + test.group(2), comment, quote.group(1));
            }
        }
    }

    /** A quote is of the promise that the comment names; if it is not there, of what stands before them. */
    private static void mark(String test, String comment, String quote) {
        Matcher promise = PROMISE.matcher(comment);
        boolean found = promise.find() && markIn(promise.group() + ":", quote)
                || markIn("What it is", quote) || markIn("Terms", quote);
        Check.due(test + ": \"" + quote + "\" is in the document", true, found);
    }

    /** The pieces between a quote's dots stand one behind the other, each of whole words. */
    private static boolean markIn(String title, String quote) {
        Document.Section section = document.section(title);
        BitSet quoted = new BitSet();
        int from = section.from;
        for (String piece : quote.split("\\.\\.\\.")) {
            Matcher there = wholeWords(piece.trim()).matcher(document.text).region(from, section.end);
            if (!there.find()) {
                return false;
            }
            quoted.set(there.start(), there.end());
            from = there.end();
        }
        QUOTED.or(quoted);
        return true;
    }

    private static Pattern wholeWords(String piece) {
        StringBuilder words = new StringBuilder();
        for (String word : piece.split("\\s+")) {
            words.append(words.length() == 0 ? "" : "\\s+").append(Pattern.quote(word));
        }
        return Pattern.compile("(?<!\\w(?=\\w))" + words + "(?!(?<=\\w)\\w)");
    }

    private static void allIsQuoted(Document.Section section) {
        StringBuilder left = new StringBuilder(document.textOf(section));
        for (int i = 0; i < left.length(); i++) {
            if (QUOTED.get(section.from + i)) {
                left.setCharAt(i, '\0');
            }
        }
        for (Matcher code = CODE.matcher(left.toString()); code.find();) {
            blank(left, code.start(), code.end());
        }
        for (String nothing : ASKS_NOTHING) {
            int at = left.indexOf(nothing);
            blank(left, at, at < 0 ? at : at + nothing.length());
        }
        for (Matcher unquoted = UNQUOTED.matcher(left); unquoted.find();) {
            String before = document.textOf(section).substring(Math.max(0, unquoted.start() - 30), unquoted.start());
            Check.tell(section.title + ", behind \"" + before + "\": no test quotes \"" + unquoted.group().trim() + "\"");
        }
        Check.due(section.title + ": it was looked at", true, left.length() > 0);
    }

    private static void blank(StringBuilder text, int from, int end) {
        for (int i = from; i < end; i++) {
            text.setCharAt(i, '\0');
        }
    }
}
