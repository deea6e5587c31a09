import java.nio.file.Files;
import java.nio.file.Path;
import java.util.List;
import java.util.TreeSet;
import java.util.regex.Matcher;
import java.util.regex.Pattern;
import java.util.stream.Collectors;
import java.util.stream.Stream;

/** Whether every sentence of the document's terms and promises is quoted ahead of answers that it makes due. */
public final class SentencesTest {
    private static final Pattern QUOTE = Pattern.compile("Check\\.says\\(\\s*(\\d+),\\s*((?:\"[^\"]*\"[\\s+]*)+)\\)");

    public static void main(String[] args) throws Exception {
        boolean[] quoted = Document.beyondAnswers();
        TreeSet<Integer> promises = new TreeSet<>();
        for (Path file : tests()) {
            Matcher m = QUOTE.matcher(Files.readString(file));
            while (m.find()) {
                int promise = Integer.parseInt(m.group(1));
                String words = m.group(2).replaceAll("\"[\\s+]*\"", "").replaceAll("^\"|\"\\s*$", "");
                int place = Document.find(promise, words);
                Check.due(promise, file + ": the document says '" + words + "'", place >= 0, true);
                promises.add(promise);
                for (int i = Math.max(place, 0); i < place + words.length(); i++) {
                    quoted[i] = true;
                }
            }
        }
        for (int p = 1; p <= Document.PROMISES; p++) {
            Check.due(p, "a sentence of it is quoted", promises.contains(p), true);
        }
        tellUnquoted(quoted);
        Check.end();
    }

    private static List<Path> tests() throws Exception {
        try (Stream<Path> all = Files.list(Path.of("src/test/java"))) {
            return all.filter(file -> file.toString().endsWith("Test.java")).sorted().collect(Collectors.toList());
        }
    }

    private static void tellUnquoted(boolean[] quoted) {
        StringBuilder left = new StringBuilder();
        for (int i = 0; i <= quoted.length; i++) {
            if (i < quoted.length && !quoted[i]) {
                left.append(Document.TEXT.charAt(i));
            } else if (left.length() > 0) {
                boolean tells = Pattern.compile("[A-Za-z0-9]").matcher(left).find();
                Check.due(1, "no test quotes '" + left + "'", tells, false);
                left.setLength(0);
            }
        }
    }
}
