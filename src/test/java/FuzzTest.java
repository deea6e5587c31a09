import java.util.Arrays;

/** Lays GreatArc's answers beside Plain's over many runs of chance calls, each kind of run with its own bent. */
public final class FuzzTest extends Beside {
    private static final int KINDS = 11;
    private static final String[] NAMES = {"off", "hour", "party", "count", "spread", "kept", "at"};

    private final int kind;
    private int marks = 0;
    private int angles = 0;
    private int readings = 0;
    private int triangles = 0;
    private int ring = 2160000;
    private int scatter = 50;
    private boolean even = false;

    private FuzzTest(long seed, int kind) {
        super(seed);
        this.kind = kind;
    }

    /** A number below n, seldom one that isn't. */
    private int some(int n) {
        if (oneIn(40)) {
            return new int[] {-1, -2, n, n + 1, 1000000, Integer.MIN_VALUE, Integer.MAX_VALUE}[chance.nextInt(7)];
        }
        return n <= 0 ? 0 : chance.nextInt(n);
    }

    /** A number from lo to hi, seldom an edge or one beyond. */
    private int between(int lo, int hi) {
        if (oneIn(25)) {
            return new int[] {lo, hi, lo - 1, hi + 1, Integer.MIN_VALUE, Integer.MAX_VALUE}[chance.nextInt(6)];
        }
        return lo + chance.nextInt(hi - lo + 1);
    }

    private int seedling(int n) {
        return calls() % (n + 1);
    }

    private void addMark() {
        if (number("mark", oneIn(30) ? some(1024) : upTo(7) * 32 + upTo(7)) >= 0) {
            marks++;
        }
    }

    private int bits(int about) {
        switch (chance.nextInt(30)) {
            case 0:
                return Float.floatToRawIntBits(Float.NaN);
            case 1:
                return chance.nextInt();
            case 2:
                return Float.floatToRawIntBits(new float[] {-0.0f, -0.9f, -1f, 12959999f, 12960000f, 0.5f, 36000f,
                    35999f, 6444000f, 6444001f, Float.POSITIVE_INFINITY, Float.NEGATIVE_INFINITY}[chance.nextInt(12)]);
            case 3:
                return 0x7FC00001 | chance.nextInt();
            default:
                return Float.floatToRawIntBits(about + chance.nextInt(2 * scatter + 1) - scatter + chance.nextFloat());
        }
    }

    private void addReading(int angle, int about) {
        if (number("read", angle, bits(about), between(0, 23), some(3)) >= 0) {
            readings++;
        }
    }

    private int addAngle(int at, int from, int to) {
        int a = number("angle", at, from, to);
        if (a >= 0) {
            angles++;
        }
        return a;
    }

    private void addTriangle() {
        if (marks < 3) {
            addMark();
            return;
        }
        int a = chance.nextInt(marks);
        int b = chance.nextInt(marks);
        int c = chance.nextInt(marks);
        int x = oneIn(2) ? addAngle(a, b, c) : addAngle(a, c, b);
        int y = oneIn(2) ? addAngle(b, a, c) : addAngle(b, c, a);
        int z = oneIn(2) ? addAngle(c, b, a) : addAngle(c, a, b);
        if (x < 0 || y < 0 || z < 0) {
            return;
        }
        int p = even || oneIn(2) ? ring : 400000 + upTo(4000000);
        int q = even || oneIn(2) ? ring : 400000 + upTo(1500000);
        for (int i = upTo(2); i >= 0; i--) {
            addReading(x, p);
            addReading(y, q);
            addReading(z, 6480000 - p - q);
        }
        if (number("triangle", x, y, z, oneIn(5) ? between(0, 9999) : upTo(30)) >= 0) {
            triangles++;
        }
    }

    /** A triangle of the first three marks: many like it have many chains over one another's sides. */
    private void addLike() {
        int p = 300000 + 60000 * upTo(50);
        int q = 300000 + 60000 * upTo(40);
        int[] means = {p, q, 6480000 - p - q};
        int[] a = new int[3];
        for (int i = 0; i < 3; i++) {
            a[i] = addAngle(i, (i + 1) % 3, (i + 2) % 3);
            addReading(a[i], means[i]);
        }
        triangles += number("triangle", a[0], a[1], a[2], 0) >= 0 ? 1 : 0;
    }

    /** Four marks, all angles round each, their four triangles and four rounds: conditions that share angles. */
    private void addWeb(int times) {
        int[][] number = new int[4][4];
        for (int m = 0; m < 4; m++) {
            int[] o = {(m + 1) % 4, (m + 2) % 4, (m + 3) % 4};
            for (int i = 0; i < 3; i++) {
                // named by the mark that it does not see
                number[m][o[(i + 2) % 3]] = addAngle(m, o[i], o[(i + 1) % 3]);
            }
            for (int i = 0; i < 3 * times; i++) {
                addReading(number[m][o[i % 3]], i % 3 == 1 ? 8640000 : 2160000);
            }
            call("round", number[m][o[2]], number[m][o[0]], number[m][o[1]], -1, -1, -1);
        }
        for (int m = 0; m < 4; m++) {
            int t = number("triangle", number[(m + 1) % 4][m], number[(m + 2) % 4][m], number[(m + 3) % 4][m], upTo(9));
            triangles += t >= 0 ? 1 : 0;
        }
    }

    private void addRound() {
        if (marks < 4) {
            addMark();
            return;
        }
        int size = 2 + upTo(4);
        int at = chance.nextInt(marks);
        int[] row = new int[6];
        Arrays.fill(row, -1);
        int first = (at + 1) % marks;
        int from = first;
        for (int i = 0; i < size; i++) {
            int to = i == size - 1 ? first : (at + 2 + i % (marks - 1)) % marks;
            row[i] = addAngle(at, from, to);
            addReading(row[i], 12960000 / size);
            from = to;
        }
        call("round", row[0], row[1], row[2], row[3], row[4], row[5]);
    }

    private String sum(int depth) {
        String[] signs = {" + ", "-", "*", " * "};
        String one = oneIn(2) ? NAMES[chance.nextInt(7)] : "" + (oneIn(4) ? upTo(9999999) : upTo(30));
        return depth == 0 || oneIn(2) ? one : one + signs[chance.nextInt(4)] + sum(depth - 1);
    }

    private String any(int depth) {
        switch (depth == 0 ? 5 : chance.nextInt(7)) {
            case 0:
                return any(depth - 1) + " or " + any(depth - 1);
            case 1:
                return any(depth - 1) + " and " + any(depth - 1);
            case 2:
                return "(" + any(depth - 1) + ")";
            case 3:
                return "not " + any(depth - 1);
            default:
                return sum(2) + new String[] {"<", " > ", "= "}[chance.nextInt(3)] + sum(2);
        }
    }

    private String text() {
        switch (chance.nextInt(6)) {
            case 0:
                return "strike if off > " + upTo(60);
            case 1:
                return "strike if " + any(3);
            case 2:
                return "weight " + sum(2) + (oneIn(2) ? " if " + any(2) : "");
            case 3:
                return "again if " + any(2);
            case 4:
                return "least " + (oneIn(2) ? "" + upTo(3000000) : sum(2));
            default:
                return "close " + (oneIn(2) ? "" + upTo(200) : sum(2));
        }
    }

    private String deep() {
        String open = "";
        String shut = "";
        for (int i = upTo(10); i > 0; i--) {
            open += "(";
            shut += ")";
        }
        String nots = "not ".repeat(upTo(10));
        return "strike if " + open + nots + "off<1" + shut;
    }

    private String longSum() {
        String text = "weight 1";
        for (int i = 26 + upTo(6); i > 0; i--) {
            text += oneIn(2) ? "+2" : "*at";
        }
        return text + (oneIn(2) ? "" : " if 1=1");
    }

    private String broken(String text) {
        String[] bits = {"if", "and", "or", "not", "(", ")", "<", ">", "=", "+", "-", "*", "off", "foo", "strike",
            "12345678", "7777777", "abcdefghi", "?", "A", " ", "weight", "\u00e9", "\0"};
        String bit = bits[chance.nextInt(bits.length)];
        int at = upTo(text.length());
        switch (chance.nextInt(4)) {
            case 0:
                return text.substring(0, at);
            case 1:
                return text.substring(0, at) + bit + text.substring(at);
            case 2:
                return text.substring(0, at) + " " + bit + " " + text.substring(at);
            default:
                int end = Math.min(text.length(), at + 1 + upTo(3));
                return text.substring(0, at) + text.substring(end);
        }
    }

    private void addRule() {
        String text = oneIn(12) ? deep() : oneIn(12) ? longSum() : text();
        int breaks = oneIn(3) ? 1 + upTo(1) : 0;
        for (int i = 0; i < breaks; i++) {
            text = broken(text);
        }
        feed(text);
        int n = oneIn(20) ? between(0, 60) : text.length();
        int from = oneIn(3) ? between(0, 3) : 0;
        call("rule", n, from, oneIn(3) ? between(0, 6) : 9999);
        call("fault");
        call("where");
    }

    private void landCall() {
        switch (chance.nextInt(8)) {
            case 0: addMark(); break;
            case 1: call("tower", some(marks), between(0, 99)); break;
            case 2: call("lamp", some(marks), oneIn(2)); break;
            case 3: call("haze", between(0, 3), between(0, 23), oneIn(2) ? between(0, 32) : upTo(5)); break;
            case 4: call("pass", oneIn(9) ? between(1, 1000) : 1); break;
            case 5:
            case 6: call("see", some(marks), some(marks), between(0, 4), between(0, 23)); break;
            default: call("cell", oneIn(4) ? some(1024) : upTo(7) * 32 + upTo(7),
                oneIn(9) ? between(0, 2000) : upTo(40), oneIn(9) ? between(0, 90) : upTo(20)); break;
        }
    }

    private void bookCall() {
        switch (chance.nextInt(14)) {
            case 0: call("party", oneIn(2)); break;
            case 1: addAngle(some(marks), some(marks), some(marks)); break;
            case 2:
            case 3:
            case 4:
            case 5: addReading(some(angles), oneIn(3) ? upTo(12959999) : 100); break;
            case 6: call("reading", some(readings), between(0, 8)); break;
            case 7: call("strike", some(readings), some(3), oneIn(2)); break;
            case 8: call("angleOf", some(angles), between(0, 10)); break;
            case 9: call("known", some(angles), between(0, 3)); break;
            case 10: call("led", some(angles), between(0, 4)); break;
            case 11: call("count", between(0, 13)); break;
            case 12: call("force", some(6), between(0, 3), between(0, 9)); break;
            default: call("pass", 1); break;
        }
    }

    private void netCall() {
        switch (chance.nextInt(12)) {
            case 0: addTriangle(); break;
            case 1: addRound(); break;
            case 2: call("triangle", some(angles), some(angles), some(angles), between(0, 9999)); break;
            case 3: call("round", some(angles), some(angles), some(angles), -1, some(angles), -1); break;
            case 4: call("miss", some(triangles), oneIn(3)); break;
            case 5: call("well", some(triangles)); break;
            case 6: call("wide"); break;
            case 7: call("cost"); break;
            case 8:
                for (int i = 0; i < 6; i++) {
                    call("change", some(angles));
                    call("part", some(angles), oneIn(2));
                }
                break;
            case 9: call("told", between(0, 1)); break;
            default:
                int most = Math.min(30, triangles);
                boolean told = number("adjust", chance.nextInt(1 << Math.min(most, 10)) & chance.nextInt(),
                    oneIn(2) ? 0 : upTo(31) & upTo(31)) > 0;
                for (int a = 0; told && a < angles && a < 15; a++) {
                    call("change", a);
                    call("part", a, oneIn(2));
                }
                if (told) {
                    call("cost");
                }
                break;
        }
    }

    private void chainCall() {
        switch (chance.nextInt(10)) {
            case 0: call("base", some(marks), some(marks), some(3)); break;
            case 1:
            case 2: call("bar", some(4), oneIn(3) ? between(1000, 100000) : 10000 + upTo(60), between(-20, 60),
                oneIn(3) ? between(0, 999) : 0); break;
            case 3: call("growth", between(0, 50)); break;
            case 4: call("baseOf", some(4), between(0, 4)); break;
            case 5:
            case 6:
                call("chain", some(3), some(marks), some(marks));
                tellChain();
                break;
            case 7:
                call("close", some(4), some(4));
                tellChain();
                break;
            case 8: call("sine", between(0, 6480000)); break;
            default:
                call("check", some(3), some(marks), some(marks), some(triangles), oneIn(3) ? -1 : some(triangles),
                    oneIn(3) ? -1 : some(triangles), oneIn(3) ? -1 : some(triangles), -1, some(triangles));
                break;
        }
    }

    private void tellChain() {
        call("side", false);
        call("side", true);
        for (int i = 0; i < 3; i++) {
            call("link", i);
        }
    }

    private void blunderCall() {
        switch (chance.nextInt(8)) {
            case 0:
                if (oneIn(9)) {
                    call("clear");
                }
                break;
            case 1: addReading(some(angles), ring + (oneIn(5) ? upTo(1200) - 600 : 0)); break;
            case 2:
                if (oneIn(4)) {
                    call("strike", some(readings), some(3), oneIn(2));
                }
                break;
            case 3:
                call("blunder");
                call("rivals");
                for (int i = 0; i < 3; i++) {
                    call("guilty", i);
                }
                break;
            default: call("suspect", some(readings)); break;
        }
    }

    private void skyCall() {
        switch (chance.nextInt(9)) {
            case 0:
                if (oneIn(4)) {
                    call("star", some(marks), some(marks), between(0, 12959999), between(0, 23));
                }
                break;
            case 1:
            case 2: call("north", some(marks), some(marks)); break;
            case 3:
            case 4: call("steps", some(marks), some(marks)); break;
            case 5:
                int a = addAngle(some(marks), some(marks), some(marks));
                addReading(a, 1000000 + upTo(9999999));
                break;
            case 6: addMark(); break;
            case 7: addReading(some(angles), 5000000); break;
            default: call("strike", some(readings), 0, oneIn(2)); break;
        }
    }

    private void measureCall() {
        switch (chance.nextInt(8)) {
            case 0: call("level", some(Math.min(4, marks)), some(Math.min(4, marks)),
                oneIn(2) ? between(-1000000, 1000000) : upTo(400) - 200, between(0, 23)); break;
            case 1: call("between", some(Math.min(4, marks)), some(Math.min(4, marks))); break;
            case 2: call("doubt", some(Math.min(4, marks)), some(Math.min(4, marks))); break;
            case 3: call("mass", some(1024), oneIn(2) ? between(1, 1000000) : 1 + upTo(900)); break;
            case 4: call("pull", some(marks), oneIn(2)); break;
            case 5: call("arc", between(0, 90), between(1, 1000000)); break;
            case 6: call("figure", oneIn(2)); break;
            default: addMark(); break;
        }
    }

    private void setOut() {
        if (kind == 10) {
            call("party", true);
            call("party", false);
            fill();
            return;
        }
        call("party", true);
        call("party", false);
        call("party", oneIn(2));
        int few = 3 + chance.nextInt(5);
        for (int i = 0; i < few; i++) {
            addMark();
        }
        scatter = new int[] {0, 3, 50, 400}[chance.nextInt(4)];
        if (kind == 2) {
            while (marks < 4 && calls() < 40) {
                addMark();
            }
            addWeb(1 + upTo(1));
        }
        if (kind == 4) {
            even = true;
            scatter = new int[] {0, 3, 30, 60}[chance.nextInt(4)];
            for (int i = 0; i < 20 && triangles < 1 + seedling(3); i++) {
                addTriangle();
            }
            for (int i = upTo(3); i >= 0; i--) {
                addReading(some(angles), ring + upTo(1200) - 600);
            }
            for (int i = upTo(9); i >= 0; i--) {
                call("suspect", some(readings));
            }
        }
        if (kind == 5) {
            int some = 4 + upTo(14);
            for (int i = 0; i < some; i++) {
                addReading(addAngle(some(marks), some(marks), some(marks)), 1000000 + upTo(9999999));
            }
            for (int i = upTo(3); i >= 0; i--) {
                call("star", some(marks), some(marks), between(0, 12959999), between(0, 23));
            }
        }
        if (kind == 9) {
            for (int i = upTo(5); i >= 0; i--) {
                addLike();
            }
            call("base", 0, 1, 0);
            call("bar", 0, 1000 + upTo(9000), 15, 0);
        }
        if (kind == 3) {
            int some = 2 + upTo(7);
            for (int i = 0; i < some; i++) {
                addTriangle();
            }
            call("base", 0, 1, 0);
            call("base", 1, 2, 1);
            call("base", 0, 1, 2);
        }
    }

    private void step() {
        call("trouble");
        int which = oneIn(kind == 7 || kind == 10 ? 1 : 6) ? chance.nextInt(8) : kind;
        switch (which) {
            case 0: landCall(); break;
            case 1: bookCall(); break;
            case 2: netCall(); break;
            case 3: chainCall(); break;
            case 4:
                if (oneIn(5)) {
                    netCall();
                } else {
                    blunderCall();
                }
                break;
            case 5: skyCall(); break;
            case 6: measureCall(); break;
            case 9:
                call("chain", 0, some(3), some(3));
                tellChain();
                break;
            default: addRule(); break;
        }
    }

    @Override
    void run() {
        setOut();
        int steps = 20 + chance.nextInt(400);
        for (int i = 0; i < steps && !isOver(); i++) {
            step();
        }
    }

    /** Fills every bound, so that what is asked behind it walks over full rows. */
    private void fill() {
        for (int i = 0; i < 31; i++) {
            marks += number("mark", 33 * i) >= 0 ? 1 : 0;
        }
        for (int i = 0; i < 6; i++) {
            int a = addAngle(i, i + 1, i + 2);
            addReading(a, 5000000);
            int b = addAngle(i, i + 2, i + 1);
            addReading(b, 7960000);
            call("round", a, b, -1, 0, 0, 0);
            call("round", b, a, -1, 0, 0, 0);
        }
        call("round", 0, 1, -1, 0, 0, 0);
        for (int i = 0; i < 22; i++) {
            addAngle(i, i + 1, i + 2);
            addAngle(i + 1, i + 2, i);
            addAngle(i + 2, i, i + 1);
            for (int a = angles - 3; a < angles; a++) {
                addReading(a, ring);
            }
        }
        for (int i = 0; i < 3; i++) {
            addAngle(27, 28, 29);
        }
        for (int i = 0; i < 31; i++) {
            int a = 12 + 3 * (i % 22);
            triangles += number("triangle", a, a + 1, a + 2, i) >= 0 ? 1 : 0;
        }
        for (int i = 0; i < 61; i++) {
            call("level", i % 30, (i + 1) % 30, i, i % 24);
        }
        for (int i = 0; i < 31; i++) {
            call("arc", 3 * i, 1000 + i * i);
        }
        for (int i = 0; i < 25; i++) {
            feed("least 9*" + i + "4000");
            call("rule", 20, 0, 40 - i);
        }
        for (int i = 0; i < 21; i++) {
            call("star", i % 7, i % 7 + 1, i * 5000, 3);
        }
        for (int i = 0; i < 13; i++) {
            call("mass", i * 40, 1000 * i + 1);
            call("suspect", i);
        }
        for (int i = 0; i < 7; i++) {
            call("base", i, i + 1, 0);
            call("party", true);
        }
    }

    public static void main(String[] args) {
        lay(args, 660, (seed, kind) -> new FuzzTest(seed, kind >= 0 ? kind : (int) (seed % KINDS)));
    }
}
