import java.io.IOException;
import java.io.UncheckedIOException;
import java.nio.file.Files;
import java.nio.file.Path;

/** Runs a test under the words of the document that it is for, which the document must have. */
final class Words {
    /** Numbers for the sections that are no promises. */
    static final int TERMS = 0;
    static final int WHAT_IT_IS = -1;
    static final int NOT_PROMISED = -2;
    static final int FACE = -3;

    private static final Path DOCUMENT = Path.of("../shared/DOC.md");
    private static String text = null;

    private Words() {
    }

    static void say(int promise, String words, Runnable test) {
        String heading = headingOf(promise);
        Due.due(heading.trim() + " says '" + words + "'", section(promise).contains(words) ? 1 : 0, 1);
        Due.under(heading.substring(3).trim() + " '" + words + "'");
        test.run();
        Due.under("");
    }

    private static String headingOf(int promise) {
        switch (promise) {
            case TERMS:
                return "## Terms\n";
            case WHAT_IT_IS:
                return "## What it is\n";
            case NOT_PROMISED:
                return "## Not promised\n";
            case FACE:
                return "## The public face\n";
            default:
                return "## Promise " + promise + ": ";
        }
    }

    /** The text of a promise, or of one of the other sections; empty if there is none. */
    static String section(int promise) {
        int begin = document().indexOf(headingOf(promise));
        if (begin < 0) {
            return "";
        }
        int end = document().indexOf("\n## ", begin);
        return document().substring(begin, end < 0 ? document().length() : end);
    }

    private static String document() {
        if (text == null) {
            try {
                text = Files.readString(DOCUMENT);
            } catch (IOException failure) {
                throw new UncheckedIOException(failure);
            }
        }
        return text;
    }
}
