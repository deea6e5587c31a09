import java.lang.reflect.InvocationTargetException;
import java.lang.reflect.Method;
import java.lang.reflect.Modifier;
import java.util.ArrayList;
import java.util.Arrays;
import java.util.HashMap;
import java.util.List;
import java.util.Map;
import java.util.Random;

/** A run of chance calls, each of GreatArc and of Plain, up to the first that the two answer unlike. */
abstract class Beside {
    static final int CALLS = 512;
    private static final int SHOWN = 3;
    private static final Map<String, Method> ARC = methods(GreatArc.class);
    private static final Map<String, Method> PLAIN = methods(Plain.class);

    final Random chance;
    private final GreatArc arc = new GreatArc();
    private final Plain plain = new Plain();
    private final List<String> log = new ArrayList<>();
    private boolean wrong = false;

    /** Makes the run of a seed, of the kind that is asked for or, if that is -1, of the seed's own. */
    interface Maker {
        Beside of(long seed, int kind);
    }

    Beside(long seed) {
        chance = new Random(seed);
    }

    abstract void run();

    private static Map<String, Method> methods(Class<?> type) {
        Map<String, Method> found = new HashMap<>();
        for (Method m : type.getDeclaredMethods()) {
            if (Modifier.isPublic(m.getModifiers())) {
                found.put(m.getName(), m);
            }
        }
        return found;
    }

    private static Object ask(Method method, Object on, Object... args) {
        try {
            return method.invoke(on, args);
        } catch (InvocationTargetException e) {
            return "throws " + e.getCause().getClass().getName();
        } catch (IllegalAccessException e) {
            throw new IllegalStateException(e);
        }
    }

    final int calls() {
        return log.size();
    }

    /** Behind an answer that isn't as due, or with all calls of an object used up. */
    final boolean isOver() {
        return wrong || log.size() >= CALLS;
    }

    final Object call(String name, Object... args) {
        if (isOver()) {
            return -1;
        }
        Object got = ask(ARC.get(name), arc, args);
        Object due = ask(PLAIN.get(name), plain, args);
        log.add(name + Arrays.toString(args) + " = " + got);
        if (!got.equals(due)) {
            wrong = true;
            log.add("  due is " + due);
        }
        return got;
    }

    final int number(String name, Object... args) {
        Object got = call(name, args);
        return got instanceof Integer ? (Integer) got : -1;
    }

    /** Feeds a text, with blanks up to whole twenties. */
    final void feed(String text) {
        for (int i = 0; i < text.length(); i += 20) {
            int[] five = new int[5];
            for (int j = 0; j < 20; j++) {
                int c = i + j < text.length() ? text.charAt(i + j) : ' ';
                five[j / 4] = five[j / 4] << 8 | c;
            }
            call("feed", five[0], five[1], five[2], five[3], five[4]);
        }
    }

    final int upTo(int n) {
        return chance.nextInt(n + 1);
    }

    final boolean oneIn(int n) {
        return chance.nextInt(n) == 0;
    }

    /** Runs one seed behind another (SEED RUNS KIND are its arguments), and tells of the first that are not as due. */
    static void lay(String[] args, int defaultRuns, Maker maker) {
        long first = args.length > 0 ? Long.parseLong(args[0]) : 1;
        int runs = args.length > 1 ? Integer.parseInt(args[1]) : defaultRuns;
        int kind = args.length > 2 ? Integer.parseInt(args[2]) : -1;
        int bad = 0;
        long calls = 0;
        for (long seed = first; seed < first + runs && bad < SHOWN; seed++) {
            Beside run = maker.of(seed, kind);
            run.run();
            calls += run.calls();
            if (run.wrong) {
                bad++;
                System.out.println("run of seed " + seed + ":");
                for (String line : run.log) {
                    System.out.println("  " + line);
                }
            }
        }
        System.out.println(runs + " runs, " + calls + " calls: " + (bad == 0 ? "all as due" : bad + " runs are not as due"));
        if (bad != 0) {
            System.exit(1);
        }
    }
}
