import java.lang.reflect.InvocationTargetException;
import java.lang.reflect.Method;
import java.lang.reflect.Modifier;
import java.nio.file.Files;
import java.nio.file.Path;
import java.util.Random;
import java.util.TreeSet;
import java.util.regex.Matcher;
import java.util.regex.Pattern;

/** The public face is the document's and no more, and nothing but led() throws, whatever it is asked. */
public final class FaceTest {
    public static void main(String[] args) throws Exception {
        face();
        onlyOwnExceptions();
        makesNoObjects();
        Check.end();
    }

    /** The declarations in the document, as "int mark(int)" and the like. */
    private static TreeSet<String> promised() throws Exception {
        String doc = Files.readString(Path.of("../shared/DOC.md"));
        TreeSet<String> found = new TreeSet<>();
        Matcher m = Pattern.compile("    public (int|long|boolean) (\\w+)\\(([^)]*)\\)").matcher(doc);
        while (m.find()) {
            found.add(m.group(1) + " " + m.group(2) + "(" + m.group(3).replaceAll(" \\w+(, |$)", ",") + ")");
        }
        return found;
    }

    private static void face() throws Exception {
        TreeSet<String> own = new TreeSet<>();
        for (Method m : GreatArc.class.getDeclaredMethods()) {
            if (Modifier.isPublic(m.getModifiers())) {
                StringBuilder types = new StringBuilder();
                for (Class<?> type : m.getParameterTypes()) {
                    types.append(type).append(',');
                }
                own.add(m.getReturnType() + " " + m.getName() + "(" + types + ")");
            }
        }
        Check.due(1, "58 promises, one of them the constructor", promised().size(), 57);
        Check.due(1, "the face " + own + " is " + promised(), own.equals(promised()), true);
        Check.due(1, "final", Modifier.isFinal(GreatArc.class.getModifiers()), true);
        Check.due(1, "one constructor", GreatArc.class.getConstructors().length, 1);
        Check.due(1, "NONE", GreatArc.NONE, -1);
    }

    /** All calls of a run share one room that is never swept: a call that makes objects would fill it. */
    private static void makesNoObjects() {
        com.sun.management.ThreadMXBean room =
            (com.sun.management.ThreadMXBean) java.lang.management.ManagementFactory.getThreadMXBean();
        long one = Long.MAX_VALUE;
        long rest = Long.MAX_VALUE;
        // the first turn loads classes, too
        for (int turn = 0; turn < 4; turn++) {
            long start = room.getCurrentThreadAllocatedBytes();
            GreatArc x = new GreatArc();
            one = Math.min(one, room.getCurrentThreadAllocatedBytes() - start);
            start = room.getCurrentThreadAllocatedBytes();
            busy(x);
            rest = Math.min(rest, room.getCurrentThreadAllocatedBytes() - start);
        }
        Check.due(1, "a new object has " + one + " bytes", one < 400000, true);
        Check.due(1, "its calls made " + rest + " bytes", rest < 2000, true);
    }

    private static void busy(GreatArc x) {
        x.party(true);
        for (int m = 0; m < 5; m++) {
            x.mark(m * 33);
        }
        for (int t = 0; t < 8; t++) {
            for (int i = 0; i < 3; i++) {
                int a = x.angle(i, (i + 1) % 3, (i + 2) % 3);
                x.read(a, Float.floatToRawIntBits(2160000 + 100 * t), t, 0);
                x.read(a, Float.floatToRawIntBits(2160000 - 90 * t), t, 0);
            }
            x.triangle(3 * t, 3 * t + 1, 3 * t + 2, 0);
        }
        x.feed(0x73747269, 0x6B652069, 0x66206F66, 0x663E3939, 0x39393939);
        x.rule(20, 0, 9);
        x.base(0, 1, 0);
        x.bar(0, 50000, 20, 30);
        x.star(0, 1, 5, 5);
        for (int r = 0; r < 12; r++) {
            x.suspect(r);
        }
        for (int i = 0; i < 20; i++) {
            x.chain(0, 1, 2);
            x.adjust(63, 0);
            x.change(i);
            x.part(i, false);
            x.blunder();
            x.north(2, 0);
            x.known(i, 0);
            x.count(13);
            x.see(0, 4, 0, 0);
            x.wide();
            x.reading(i, 6);
            x.check(0, 1, 2, 0, 1, 2, -1, 0, 0);
            x.figure(true);
        }
    }

    private static int odd(Random chance) {
        int[] odd = {0, 0, 1, 1, 2, 3, -1, -2, 5, 79, 80, 1023, 1024, 12345678, Integer.MIN_VALUE, Integer.MAX_VALUE};
        return chance.nextInt(3) == 0 ? chance.nextInt() : odd[chance.nextInt(odd.length)];
    }

    private static void onlyOwnExceptions() throws Exception {
        for (int seed = 0; seed < 60; seed++) {
            Random chance = new Random(seed);
            GreatArc x = seed % 2 == 0 ? new GreatArc() : Check.room(6);
            Method[] all = GreatArc.class.getDeclaredMethods();
            java.util.Arrays.sort(all, java.util.Comparator.comparing(Method::getName));
            for (int i = 0; i < 4000; i++) {
                Method m = all[chance.nextInt(all.length)];
                if (!Modifier.isPublic(m.getModifiers())) {
                    continue;
                }
                Object[] args = new Object[m.getParameterCount()];
                for (int a = 0; a < args.length; a++) {
                    args[a] = m.getParameterTypes()[a] == boolean.class ? (Object) chance.nextBoolean() : (Object) odd(chance);
                }
                try {
                    m.invoke(x, args);
                } catch (InvocationTargetException e) {
                    boolean due = m.getName().equals("led") && e.getCause() instanceof java.util.NoSuchElementException;
                    Check.due(15, m.getName() + " throws " + e.getCause(), due, true);
                }
            }
        }
    }
}
