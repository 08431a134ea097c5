import java.io.IOException;
import java.io.UncheckedIOException;
import java.nio.file.Files;
import java.nio.file.Path;
import java.util.regex.Matcher;
import java.util.regex.Pattern;

/** Goes through a section of the document in its order and gives each sentence the test of its own. */
final class Sentences {
    private static final Path DOCUMENT = Path.of("../shared/DOC.md");

    private final String section;
    private String rest;

    private Sentences(String section, String rest) {
        this.section = section;
        this.rest = rest;
    }

    /** A section named by its heading; a part of "Terms" is named by its words in bold type. */
    static Sentences of(String section) {
        return new Sentences(section, plain(textOf(section)));
    }

    static String document() {
        try {
            return Files.readString(DOCUMENT);
        } catch (IOException e) {
            throw new UncheckedIOException(e);
        }
    }

    /** The next words of the section are these, and the test shows that they hold. */
    Sentences holds(String sentence, Runnable test) {
        Due.about(section + " | " + sentence);
        if (rest.startsWith(sentence)) {
            rest = rest.substring(sentence.length()).strip();
        } else {
            Due.yes("the document goes on with these words; it goes on with: " + rest, false);
        }
        int before = Due.lookedSoFar();
        try {
            test.run();
        } catch (RuntimeException e) {
            Due.yes("no call throws: " + e, false);
        }
        Due.yes("the test looked at an answer", Due.lookedSoFar() > before);
        return this;
    }

    /** No sentence of the section is left without a test. */
    void end() {
        Due.about(section);
        Due.yes("each sentence has a test; without one: " + rest, rest.isEmpty());
    }

    private static String textOf(String section) {
        String heading = "(?m)^(## " + Pattern.quote(section) + "$|\\*\\*" + Pattern.quote(section) + "\\.\\*\\*)";
        Matcher start = Pattern.compile(heading).matcher(document());
        if (!start.find()) {
            Due.about(section);
            Due.yes("the document has this section", false);
            return "";
        }
        String after = document().substring(start.end());
        return after.split("(?m)^(## |\\*\\*)", 2)[0];
    }

    private static String plain(String text) {
        String unmarked = text.replaceAll("(?m)^(\\d\\.|-) ", "").replace("`", "");
        return unmarked.replaceAll("\\s+", " ").strip();
    }
}
