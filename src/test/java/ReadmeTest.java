import java.lang.reflect.InvocationTargetException;
import java.net.URL;
import java.net.URLClassLoader;
import java.nio.file.Files;
import java.nio.file.Path;
import java.util.ArrayList;
import java.util.List;
import java.util.regex.Matcher;
import java.util.regex.Pattern;
import javax.tools.ToolProvider;

/** Compiles the survey that README.md shows, runs it, and looks whether each call answers what stands behind it. */
public final class ReadmeTest {
    private static final Pattern CALL = Pattern.compile("(arc\\.\\w+\\(.*\\)); +// (-?\\d+|true|false)\\b.*");

    public static void main(String[] args) throws Exception {
        List<String> calls = new ArrayList<>();
        List<String> want = new ArrayList<>();
        for (String line : survey()) {
            Matcher m = CALL.matcher(line);
            boolean isOther = line.isEmpty() || line.equals("GreatArc arc = new GreatArc();");
            Check.due(1, "a call with its answer: " + line, m.matches() || isOther, true);
            if (m.matches()) {
                calls.add(m.group(1));
                want.add(m.group(2));
            }
        }
        Object[] got = answers(calls);
        for (int i = 0; i < got.length; i++) {
            Check.due(1, calls.get(i) + " answers " + got[i] + ", which is " + want.get(i), want.get(i).equals("" + got[i]), true);
        }
        Check.due(1, "calls of all parts of the face", calls.size() > 30, true);
        Check.end();
    }

    private static String[] survey() throws Exception {
        Matcher m = Pattern.compile("```java\n(.*?)```", Pattern.DOTALL).matcher(Files.readString(Path.of("README.md")));
        return m.find() ? m.group(1).split("\n") : new String[0];
    }

    private static Object[] answers(List<String> calls) throws Exception {
        Path folder = Files.createTempDirectory("readme");
        Path source = folder.resolve("Shown.java");
        String body = "GreatArc arc = new GreatArc(); return new Object[] {" + String.join(",\n", calls) + "};";
        Files.writeString(source, "public class Shown { public static Object[] answers() { " + body + " } }");
        String[] told = {"-d", folder.toString(), "-cp", System.getProperty("java.class.path"), source.toString()};
        Check.due(1, "it compiles", ToolProvider.getSystemJavaCompiler().run(null, null, null, told), 0);
        try (URLClassLoader loader = new URLClassLoader(new URL[] {folder.toUri().toURL()})) {
            return (Object[]) loader.loadClass("Shown").getMethod("answers").invoke(null);
        } catch (InvocationTargetException e) {
            throw new IllegalStateException("the survey throws", e.getCause());
        } finally {
            sweep(folder);
        }
    }

    private static void sweep(Path folder) throws Exception {
        Files.delete(folder.resolve("Shown.java"));
        Files.deleteIfExists(folder.resolve("Shown.class"));
        Files.delete(folder);
    }
}
