import java.lang.reflect.Field;
import java.lang.reflect.Method;
import java.lang.reflect.Modifier;
import java.nio.file.Files;
import java.nio.file.Path;
import java.util.List;
import java.util.Map;
import java.util.Set;
import java.util.TreeSet;
import java.util.regex.Matcher;
import java.util.regex.Pattern;

/** The rules of LANGUAGE.md, as far as the text of GreatArc and its bytecode show whether they are kept. */
public final class LanguageTest {
    private static final String EXCEPTIONS = "(IllegalState|IllegalArgument|IndexOutOfBounds|Arithmetic|UnsupportedOperation"
        + "|NoSuchElement|Runtime)Exception";
    /** What stands in rule 4, and what javac writes for loops over lists, whole numbers in them, enums and records. */
    private static final List<Pattern> LIBRARY = List.of(
        Pattern.compile("java\\.lang\\.String\\.(length|charAt|isEmpty|equals|indexOf|substring|toCharArray|<init>)"),
        Pattern.compile("java\\.lang\\.StringBuilder\\.(<init>|append|charAt|setCharAt|setLength|deleteCharAt|reverse|length|toString)"),
        Pattern.compile("java\\.util\\.(ArrayList|List)\\.(<init>|add|get|set|remove|size|isEmpty|clear|iterator|of)"),
        Pattern.compile("java\\.util\\.Iterator\\.(hasNext|next)"),
        Pattern.compile("java\\.lang\\.(Integer|Long|Math)\\.(?!\\w*Exact$)\\w+"),
        Pattern.compile("java\\.lang\\.System\\.arraycopy"),
        Pattern.compile("java\\.util\\.Arrays\\.(copyOf|copyOfRange|fill)"),
        Pattern.compile("java\\.lang\\.(Object|Enum|Record)\\.<init>"),
        Pattern.compile("\\[\\w+;?\\.clone"),
        Pattern.compile("java\\.(lang|util)\\." + EXCEPTIONS + "\\.<init>"));
    private static final Pattern FLOAT_REST = Pattern.compile("[fd]rem");

    public static void main(String[] args) throws Exception {
        text();
        members(GreatArc.class);
        for (Class<?> inside : GreatArc.class.getDeclaredClasses()) {
            keeps(2, inside + " is static, and not public", (inside.getModifiers() & (Modifier.STATIC | Modifier.PUBLIC)) == Modifier.STATIC);
            members(inside);
        }
        bytecode(new Bytecode());
        Check.end();
    }

    private static void keeps(int rule, String what, boolean is) {
        Check.due(1, "LANGUAGE " + rule + ": " + what, is, true);
    }

    private static void text() throws Exception {
        String source = Files.readString(Path.of("src/main/java/GreatArc.java"));
        String code = source.replaceAll("(?s)/\\*.*?\\*/", "").replaceAll("//[^\n]*", "").replaceAll("\"[^\"]*\"", "");
        String[] ruledOut = {"::", "Exact\\(", "\\bpackage ", "\\bfinally\\b", "\\bsynchronized\\b", "\\bassert\\b",
            "\\bstatic \\{", "\\bprotected\\b", "extends \\w*Exception", "\\bvolatile\\b", "\\btransient\\b"};
        for (String word : ruledOut) {
            keeps(1, "'" + word + "' in the text", !Pattern.compile(word).matcher(code).find());
        }
        each(code, "\\bimport ([^;]+);", "java\\.util\\.(ArrayList|Arrays|Iterator|List|NoSuchElementException)", 4);
        each(code, "\\bcatch \\((\\w+) \\w+\\)", EXCEPTIONS, 6);
        each(code, "\\bthrow ([^;]+);", "new " + EXCEPTIONS + "\\(\"*\\)", 6);
        Matcher method = Pattern.compile("(?ms)^( {4}| {8})[^ \n}/*@][^=;\n]*\\([^\n]*\\{$.*?^\\1\\}$").matcher(code);
        int methods = 0;
        while (method.find()) {
            methods++;
            int lines = method.group().split("\n").length;
            keeps(11, lines + " lines of " + method.group().trim().split("\n")[0], lines <= 60);
        }
        keeps(11, "all methods are looked at", methods > 57);
    }

    /** Each word that stands in such a form is one of those allowed. */
    private static void each(String code, String form, String allowed, int rule) {
        Matcher m = Pattern.compile(form).matcher(code);
        while (m.find()) {
            keeps(rule, m.group(1), m.group(1).matches(allowed));
        }
    }

    private static TreeSet<String> face() {
        TreeSet<String> names = new TreeSet<>();
        for (Method m : GreatArc.class.getDeclaredMethods()) {
            if (Modifier.isPublic(m.getModifiers())) {
                names.add(m.getName());
            }
        }
        return names;
    }

    private static void members(Class<?> type) {
        boolean isFace = type == GreatArc.class;
        int own = 0;
        for (Field f : type.getDeclaredFields()) {
            boolean isStatic = Modifier.isStatic(f.getModifiers());
            own += isStatic ? 0 : 1;
            keeps(5, f + " is final, if it is static", !isStatic || Modifier.isFinal(f.getModifiers()));
            keeps(1, f + " is private", !isFace || Modifier.isPrivate(f.getModifiers()) || f.getName().equals("NONE"));
        }
        keeps(11, own + " fields of " + type, own <= 20);
        for (Method m : type.getDeclaredMethods()) {
            boolean isOfFace = isFace && Modifier.isPublic(m.getModifiers());
            keeps(1, m + " is private", !isFace || isOfFace || Modifier.isPrivate(m.getModifiers()));
            keeps(1, m + " bears a name of the face", isOfFace || !face().contains(m.getName()));
            keeps(11, m + " takes many parameters", isOfFace || m.getParameterCount() <= 7);
        }
    }

    private static void bytecode(Bytecode code) {
        keeps(11, code.classes.size() + " classes", code.classes.size() > 1 && code.classes.size() <= 12);
        Set<String> made = Set.of("toString", "hashCode", "equals");
        for (Map.Entry<String, Bytecode.Body> method : code.bodies.entrySet()) {
            String name = method.getKey();
            // a record's own three are javac's
            boolean isMade = made.contains(name.substring(name.lastIndexOf('.') + 1));
            for (String step : method.getValue().steps) {
                keeps(2, step + " in " + name, isMade || !step.equals("invokedynamic"));
                keeps(3, step + " in " + name, !FLOAT_REST.matcher(step).matches());
                keeps(6, step + " in " + name, !step.startsWith("monitor") && !(step.equals("athrow") && name.endsWith("<init>")));
            }
            for (String called : method.getValue().calls) {
                boolean isAllowed = LIBRARY.stream().anyMatch(form -> form.matcher(called).matches());
                keeps(4, name + " calls " + called, isAllowed || isMade || code.bodies.containsKey(called));
            }
            if (name.startsWith("GreatArc.")) {
                int deep = code.depth(name, Set.of());
                keeps(11, name + " goes " + deep + " calls deep", deep <= 8);
            }
        }
    }
}
