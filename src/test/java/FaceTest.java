import java.lang.reflect.Field;
import java.lang.reflect.InvocationTargetException;
import java.lang.reflect.Method;
import java.lang.reflect.Modifier;
import java.nio.file.Files;
import java.nio.file.Path;
import java.util.Random;
import java.util.TreeSet;
import java.util.regex.Matcher;
import java.util.regex.Pattern;

/** The public face is the document's and no more, and nothing but led() throws, whatever it is asked. */
public final class FaceTest {
    public static void main(String[] args) throws Exception {
        face();
        onlyOwnExceptions();
        Check.end();
    }

    /** The declarations in the document, as "int mark(int)" and the like. */
    private static TreeSet<String> promised() throws Exception {
        String doc = Files.readString(Path.of("../shared/DOC.md"));
        TreeSet<String> found = new TreeSet<>();
        Matcher m = Pattern.compile("    public (int|long|boolean) (\\w+)\\(([^)]*)\\)").matcher(doc);
        while (m.find()) {
            found.add(m.group(1) + " " + m.group(2) + "(" + m.group(3).replaceAll(" \\w+(, |$)", ",") + ")");
        }
        return found;
    }

    private static void face() throws Exception {
        TreeSet<String> own = new TreeSet<>();
        TreeSet<String> publicNames = new TreeSet<>();
        for (Method m : GreatArc.class.getDeclaredMethods()) {
            if (Modifier.isPublic(m.getModifiers())) {
                publicNames.add(m.getName());
                StringBuilder types = new StringBuilder();
                for (Class<?> type : m.getParameterTypes()) {
                    types.append(type).append(',');
                }
                own.add(m.getReturnType() + " " + m.getName() + "(" + types + ")");
            }
        }
        Check.due(1, "58 promises, one of them the constructor", promised().size(), 57);
        Check.due(1, "the face " + own + " is " + promised(), own.equals(promised()), true);
        Check.due(1, "final", Modifier.isFinal(GreatArc.class.getModifiers()), true);
        Check.due(1, "one constructor", GreatArc.class.getConstructors().length, 1);
        for (Field f : GreatArc.class.getDeclaredFields()) {
            Check.due(1, f.getName(), Modifier.isPrivate(f.getModifiers()), !f.getName().equals("NONE"));
        }
        for (Class<?> inside : GreatArc.class.getDeclaredClasses()) {
            for (Method m : inside.getDeclaredMethods()) {
                Check.due(1, "no name twice: " + m.getName(), publicNames.contains(m.getName()), false);
            }
        }
        Check.due(1, "NONE", GreatArc.NONE, -1);
    }

    private static int odd(Random chance) {
        int[] odd = {0, 0, 1, 1, 2, 3, -1, -2, 5, 79, 80, 1023, 1024, 12345678, Integer.MIN_VALUE, Integer.MAX_VALUE};
        return chance.nextInt(3) == 0 ? chance.nextInt() : odd[chance.nextInt(odd.length)];
    }

    private static void onlyOwnExceptions() throws Exception {
        for (int seed = 0; seed < 60; seed++) {
            Random chance = new Random(seed);
            GreatArc x = seed % 2 == 0 ? new GreatArc() : Check.room(6);
            Method[] all = GreatArc.class.getDeclaredMethods();
            java.util.Arrays.sort(all, java.util.Comparator.comparing(Method::getName));
            for (int i = 0; i < 4000; i++) {
                Method m = all[chance.nextInt(all.length)];
                if (!Modifier.isPublic(m.getModifiers())) {
                    continue;
                }
                Object[] args = new Object[m.getParameterCount()];
                for (int a = 0; a < args.length; a++) {
                    args[a] = m.getParameterTypes()[a] == boolean.class ? (Object) chance.nextBoolean() : (Object) odd(chance);
                }
                try {
                    m.invoke(x, args);
                } catch (InvocationTargetException e) {
                    boolean due = m.getName().equals("led") && e.getCause() instanceof java.util.NoSuchElementException;
                    Check.due(15, m.getName() + " throws " + e.getCause(), due, true);
                }
            }
        }
    }
}
