import java.io.PrintWriter;
import java.io.StringWriter;
import java.nio.file.Files;
import java.nio.file.Path;
import java.util.ArrayList;
import java.util.LinkedHashMap;
import java.util.LinkedHashSet;
import java.util.List;
import java.util.Map;
import java.util.Set;
import java.util.regex.Matcher;
import java.util.regex.Pattern;
import java.util.spi.ToolProvider;
import java.util.stream.Collectors;
import java.util.stream.Stream;

/** GreatArc and the classes inside it as javap shows them: which method does what, and calls which. */
final class Bytecode {
    private static final Pattern CLASS = Pattern.compile("^[a-z ]*class (\\S+) .*\\{$");
    private static final Pattern METHOD = Pattern.compile("^  (?:[\\w$.\\[\\]]+ )*([\\w$.]+)\\(.*\\)( throws .*)?;$");
    private static final Pattern CALL = Pattern.compile("invoke\\w+ .*// (?:Interface)?Method ([^:]+):");
    private static final Pattern STEP = Pattern.compile("^ +\\d+: ([a-z_0-9]+)");

    /** One method: its kinds of steps, and whom it calls, by class and name. */
    static final class Body {
        final Set<String> steps = new LinkedHashSet<>();
        final Set<String> calls = new LinkedHashSet<>();
    }

    final Map<String, Body> bodies = new LinkedHashMap<>();
    final Set<String> classes = new LinkedHashSet<>();

    Bytecode() throws Exception {
        String owner = "";
        Body body = null;
        for (String line : shown().split("\n")) {
            Matcher type = CLASS.matcher(line);
            Matcher method = METHOD.matcher(line);
            Matcher call = CALL.matcher(line);
            Matcher step = STEP.matcher(line);
            if (type.matches()) {
                owner = type.group(1);
                classes.add(owner);
            } else if (method.matches()) {
                String name = method.group(1).equals(owner) ? "<init>" : method.group(1);
                // methods of one name are looked at as one
                body = bodies.computeIfAbsent(owner + "." + name, key -> new Body());
            }
            if (body != null && step.find()) {
                body.steps.add(step.group(1));
            }
            if (body != null && call.find()) {
                String called = call.group(1).replace("\"", "").replace('/', '.');
                body.calls.add(called.contains(".") ? called : owner + "." + called);
            }
        }
    }

    private static String shown() throws Exception {
        Path folder = Path.of(GreatArc.class.getProtectionDomain().getCodeSource().getLocation().toURI());
        List<String> args = new ArrayList<>(List.of("-c", "-p"));
        try (Stream<Path> all = Files.list(folder)) {
            args.addAll(all.map(Path::toString).filter(name -> name.matches(".*GreatArc(\\$.*)?\\.class")).sorted()
                .collect(Collectors.toList()));
        }
        StringWriter shown = new StringWriter();
        PrintWriter out = new PrintWriter(shown);
        ToolProvider.findFirst("javap").orElseThrow().run(out, out, args.toArray(new String[0]));
        return shown.toString();
    }

    /** How many calls stand open at most when a method is called, itself one of them; recursion is left out. */
    int depth(String method, Set<String> open) {
        int deepest = 0;
        Set<String> inside = new LinkedHashSet<>(open);
        inside.add(method);
        Body body = bodies.get(method);
        for (String called : body == null ? Set.<String>of() : body.calls) {
            if (!inside.contains(called)) {
                deepest = Math.max(deepest, depth(called, inside));
            }
        }
        return 1 + deepest;
    }
}
