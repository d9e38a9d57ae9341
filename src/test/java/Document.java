import java.io.IOException;
import java.nio.file.Files;
import java.nio.file.Path;
import java.util.ArrayList;
import java.util.List;
import java.util.regex.Matcher;
import java.util.regex.Pattern;

/** ../shared/DOC.md, by its headings. */
final class Document {
    /** What stands under a heading. */
    static final class Section {
        final String title;
        final int from;
        final int end;

        Section(String title, int from, int end) {
            this.title = title;
            this.from = from;
            this.end = end;
        }
    }

    private static final Pattern HEADING = Pattern.compile("^#+ (.*)$", Pattern.MULTILINE);

    final String text;
    final List<Section> sections = new ArrayList<>();

    private Document(String text) {
        this.text = text;
        Matcher heading = HEADING.matcher(text);
        boolean found = heading.find();
        while (found) {
            String title = heading.group(1);
            int from = heading.end();
            found = heading.find();
            sections.add(new Section(title, from, found ? heading.start() : text.length()));
        }
    }

    static Document read() throws IOException {
        return new Document(Files.readString(Path.of("../shared/DOC.md")));
    }

    /** The section whose heading begins so. */
    Section section(String beginning) {
        for (Section section : sections) {
            if (section.title.startsWith(beginning)) {
                return section;
            }
        }
        throw new IllegalStateException("no section " + beginning);
    }

    String textOf(Section section) {
        return text.substring(section.from, section.end);
    }
}
