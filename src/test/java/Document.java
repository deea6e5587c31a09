import java.io.IOException;
import java.io.UncheckedIOException;
import java.nio.file.Files;
import java.nio.file.Path;
import java.util.regex.Matcher;
import java.util.regex.Pattern;

/** The document as the tests quote it: with a single blank where lines part, too. */
final class Document {
    static final int PROMISES = 58;
    static final String TEXT = read();
    private static final int TERMS = TEXT.indexOf("## Terms");
    private static final int PROMISED = TEXT.indexOf("## Promise 1:");
    private static final int END = TEXT.indexOf("## Not promised");

    private Document() { }

    private static String read() {
        try {
            return Files.readString(Path.of("../shared/DOC.md")).replaceAll("\\s+", " ");
        } catch (IOException e) {
            throw new UncheckedIOException(e);
        }
    }

    /** Where words stand: in the promise, else in what stands ahead of the promises; -1 if in neither. */
    static int find(int promise, String words) {
        int start = TEXT.indexOf("## Promise " + promise + ":");
        int next = TEXT.indexOf("## Promise " + (promise + 1) + ":");
        int place = TEXT.indexOf(words, start);
        if (place >= 0 && place + words.length() <= (next < 0 ? END : next)) {
            return place;
        }
        place = TEXT.indexOf(words);
        return place + words.length() <= PROMISED ? place : -1;
    }

    /** Marks what no answer can be due by: headings, signatures, fences, what the face says ahead of calls. */
    static boolean[] beyondAnswers() {
        boolean[] beyond = new boolean[TEXT.length()];
        java.util.Arrays.fill(beyond, 0, TERMS, true);
        java.util.Arrays.fill(beyond, END, TEXT.length(), true);
        String[] forms = {"## Terms", "The constants:", "## Promise \\d+: ", "(?<=Promise \\d{1,2}: )[a-zA-Z ]+`[^`]*`:", "```(text)?",
            "Ahead of the calls [^:]*:( -+ [a-z, ]+\\.)?"};
        for (String form : forms) {
            Matcher m = Pattern.compile(form).matcher(TEXT);
            while (m.find()) {
                java.util.Arrays.fill(beyond, m.start(), m.end(), true);
            }
        }
        return beyond;
    }
}
