/** Chance surveys that are sound for the most part, so that what lies deep is met often: each kind looks at one depth. */
public final class SurveyTest extends Beside {
    private static final int KINDS = 7;
    private static final int HALF = 6480000;
    private static final int FULL = 12960000;
    private static final int LAST_DAY = 9999;

    private final int kind;
    private int marks = 0;
    private int angles = 0;
    private int readings = 0;
    private int triangles = 0;
    private int rounds = 0;
    private int today = 0;

    private SurveyTest(long seed, int kind) {
        super(seed);
        this.kind = kind;
    }

    public static void main(String[] args) {
        lay(args, 1400, (seed, kind) -> new SurveyTest(seed, kind >= 0 ? kind : (int) (seed % KINDS)));
    }

    @Override
    void run() {
        call("party", true);
        call("party", false);
        call("party", oneIn(2));
        switch (kind) {
            case 0: strip(); break;
            case 1: web(); break;
            case 2: northward(); break;
            case 3: blunders(); break;
            case 4: days(); break;
            case 5: rules(); break;
            default: measures(); break;
        }
        call("trouble");
    }

    // ---- what the kinds share

    private void addMarks(int many) {
        while (marks < many && !isOver()) {
            marks += number("mark", upTo(1023)) >= 0 ? 1 : 0;
        }
    }

    private int[] shuffled(int many) {
        int[] row = new int[many];
        for (int i = 0; i < many; i++) {
            int j = upTo(i);
            row[i] = row[j];
            row[j] = i;
        }
        return row;
    }

    private int addAngle(int at, int from, int to) {
        angles += number("angle", at, from, to) >= 0 ? 1 : 0;
        return angles - 1;
    }

    private void read(int angle, int whole) {
        readings += number("read", angle, Float.floatToRawIntBits(whole), upTo(23), upTo(2)) >= 0 ? 1 : 0;
    }

    private void readAbout(int angle, int whole, int scatter) {
        for (int i = upTo(2); i >= 0; i--) {
            read(angle, whole + upTo(2 * scatter) - scatter);
        }
    }

    /** A triangle whose angles are told from either side and in any order. */
    private void addTriangle(int[] corners, int[] means, int scatter) {
        int[] own = new int[3];
        for (int i = 0; i < 3; i++) {
            int one = corners[(i + 1) % 3];
            int other = corners[(i + 2) % 3];
            own[i] = oneIn(2) ? addAngle(corners[i], one, other) : addAngle(corners[i], other, one);
            readAbout(own[i], means[i], scatter);
        }
        int[] order = shuffled(3);
        int made = number("triangle", own[order[0]], own[order[1]], own[order[2]], oneIn(3) ? upTo(20) : 0);
        triangles += made >= 0 ? 1 : 0;
    }

    private int[] shape() {
        int one = oneIn(3) ? 2160000 : 200000 + upTo(3000000);
        int other = oneIn(3) ? 2160000 : 200000 + upTo(3000000);
        return new int[] {one, other, HALF - one - other};
    }

    private void rule(String text, int from, int to) {
        feed(text);
        call("rule", text.length(), from, to);
    }

    private void pass() {
        int day = number("pass", oneIn(4) ? 1 + upTo(5) : 1);
        today = day >= 0 ? day : today;
    }

    private String oneOf(String... texts) {
        return texts[chance.nextInt(texts.length)];
    }

    // ---- chains over a strip of triangles

    private void strip() {
        int many = 3 + upTo(6);
        addMarks(many);
        int[] row = shuffled(many);
        int scatter = new int[] {0, 3, 40, 600}[chance.nextInt(4)];
        boolean even = oneIn(3);
        for (int i = 0; i + 2 < many; i++) {
            int[] corners = {row[i], row[i + 1], row[i + 2]};
            for (int times = oneIn(3) ? 1 : 0; times >= 0; times--) {
                addTriangle(corners, even ? new int[] {2160000, 2160000, 2160000} : shape(), scatter);
            }
        }
        int[] ends = {row[0], row[1], row[many - 2], row[many - 1], row[1], row[0]};
        for (int b = 0; b < 3; b++) {
            call("base", ends[2 * b], ends[2 * b + 1], b);
            for (int i = upTo(2); i >= 0; i--) {
                call("bar", b, 9990 + upTo(20), 15 + upTo(3), oneIn(2) ? 0 : upTo(99));
            }
        }
        rule("close " + new int[] {0, 5, 60, 2000}[chance.nextInt(4)], 0, LAST_DAY);
        while (!isOver() && !oneIn(90)) {
            askChains(row);
        }
    }

    private void askChains(int[] row) {
        switch (chance.nextInt(9)) {
            case 0: call("close", upTo(2), upTo(2)); tellChain(); break;
            case 1: call("baseOf", upTo(2), upTo(4)); break;
            case 2: call("well", upTo(triangles)); break;
            case 3: alter(); break;
            case 4:
            case 5: askCheck(row); break;
            default:
                int i = upTo(row.length - 2);
                call("chain", upTo(2), row[i], row[oneIn(2) || i + 2 >= row.length ? i + 1 : i + 2]);
                tellChain();
                break;
        }
    }

    private void alter() {
        switch (chance.nextInt(5)) {
            case 0: call("strike", upTo(readings), 0, oneIn(2)); break;
            case 1: rule("least " + upTo(600000), 0, LAST_DAY); break;
            case 2: read(upTo(angles), 36000 + upTo(4) - 2); break;
            case 3: call("growth", upTo(50)); break;
            default: call("bar", upTo(2), 1000 + upTo(9), 15, upTo(999)); break;
        }
    }

    /** Mostly the triangles along the strip from a base on, as many as there are or fewer. */
    private void askCheck(int[] row) {
        boolean back = oneIn(3);
        Object[] told = {back ? 1 : 0, row[upTo(row.length - 1)], row[upTo(row.length - 1)], -1, -1, -1, -1, -1, -1};
        int many = 1 + upTo(5);
        int next = back ? triangles - 1 : 0;
        for (int i = 0; i < many; i++) {
            told[3 + i] = oneIn(15) ? upTo(triangles) : Math.max(-1, next);
            next += (back ? -1 : 1) * (oneIn(4) ? 2 : 1);
        }
        if (oneIn(2)) {
            int end = back ? Math.max(0, row.length - 2 - many) : Math.min(row.length - 2, many);
            told[1] = row[end];
            told[2] = row[end + 1];
        }
        call("check", told);
    }

    private void tellChain() {
        call("side", false);
        call("side", true);
        for (int i = 0; i < 6 && number("link", i) >= 0; i++) {
            // each is looked at by being asked
        }
    }

    // ---- adjusting: conditions that share angles

    private void web() {
        addMarks(4 + upTo(1));
        int scatter = new int[] {0, 2, 300, 900000}[chance.nextInt(4)];
        int[][] seen = new int[4][4];
        for (int m = 0; m < 4; m++) {
            int[] o = {(m + 1) % 4, (m + 2) % 4, (m + 3) % 4};
            for (int i = 0; i < 3; i++) {
                // named by the mark that it does not see
                seen[m][o[(i + 2) % 3]] = addAngle(m, o[i], o[(i + 1) % 3]);
                readAbout(angles - 1, i == 1 ? 8640000 : 2160000, scatter);
            }
            int[] row = {seen[m][o[2]], seen[m][o[0]], seen[m][o[1]]};
            rounds += number("round", row[0], row[1], row[2], -1, 0, 0) >= 0 ? 1 : 0;
        }
        for (int m = 0; m < 4; m++) {
            int t = number("triangle", seen[(m + 1) % 4][m], seen[(m + 2) % 4][m], seen[(m + 3) % 4][m], upTo(99));
            triangles += t >= 0 ? 1 : 0;
        }
        addSpares(scatter);
        if (oneIn(3)) {
            addTwins(scatter);
        }
        while (!isOver() && !oneIn(30)) {
            askAdjusted();
        }
    }

    /** Angles that one condition alone has, so that more conditions can be told from one another. */
    private void addSpares(int scatter) {
        for (int i = upTo(5); i > 0; i--) {
            int[] o = shuffled(4);
            int one = addAngle(o[0], o[1], o[2]);
            readAbout(one, 2160000, scatter);
            int other = oneIn(2) ? upTo(angles - 2) : addAngle(o[0], o[2], o[1]);
            readAbout(other, 2160000, scatter);
            rounds += number("round", one, other, -1, 0, 0, 0) >= 0 ? 1 : 0;
            addTriangle(new int[] {o[0], o[1], o[2]}, shape(), scatter);
        }
    }

    /** A triangle told from both sides, with a round at each corner: of these five conditions each hangs on the others. */
    private void addTwins(int scatter) {
        int[] o = shuffled(4);
        int[] one = new int[3];
        int[] other = new int[3];
        for (int i = 0; i < 3; i++) {
            one[i] = addAngle(o[i], o[(i + 1) % 3], o[(i + 2) % 3]);
            readAbout(one[i], 2160000, scatter);
            other[i] = addAngle(o[i], o[(i + 2) % 3], o[(i + 1) % 3]);
            readAbout(other[i], FULL - 2160000, scatter);
            rounds += number("round", one[i], other[i], -1, 0, 0, 0) >= 0 ? 1 : 0;
        }
        triangles += number("triangle", one[0], one[1], one[2], upTo(9)) >= 0 ? 1 : 0;
        triangles += number("triangle", other[0], other[1], other[2], upTo(9)) >= 0 ? 1 : 0;
        call("adjust", 3 << Math.max(0, triangles - 2), 7 << Math.max(0, rounds - 3));
        call("trouble");
    }

    private void askAdjusted() {
        if (oneIn(4)) {
            rule("weight " + oneOf("at", "at+1", "9-at", "kept", "spread", "7", "1+at*3", "count*2-at") + oneOf("", " if at>1"),
                0, LAST_DAY);
            call("force", upTo(3), oneIn(2) ? 0 : 1, 9);
        }
        if (oneIn(5)) {
            call("strike", upTo(readings), 0, true);
        }
        int wanted = 1 + upTo(5);
        int triangleBits = 0;
        int roundBits = 0;
        for (int i = 0; i < wanted; i++) {
            if (oneIn(2)) {
                triangleBits |= 1 << upTo(Math.max(0, triangles - 1));
            } else {
                roundBits |= 1 << upTo(Math.max(0, rounds - 1));
            }
        }
        if (number("adjust", triangleBits, roundBits) < 0) {
            call("trouble");
            return;
        }
        for (int a = 0; a < angles; a++) {
            call("change", a);
            call("part", a, oneIn(2));
        }
        call("cost");
        call("miss", upTo(3), oneIn(2));
    }

    // ---- the north carried far

    private void northward() {
        int many = 4 + upTo(5);
        addMarks(many);
        int[] row = shuffled(many);
        int turns = oneIn(2) ? many : 3 * many;
        for (int i = 0; i < turns; i++) {
            int at = oneIn(5) ? upTo(many - 1) : i % many;
            int from = row[(at + many - 1 - (oneIn(6) ? 1 : 0)) % many];
            int to = row[(at + 1 + (oneIn(6) ? 1 : 0)) % many];
            if (from != to && row[at] != from && row[at] != to) {
                int angle = oneIn(2) ? addAngle(row[at], from, to) : addAngle(row[at], to, from);
                if (!oneIn(7)) {
                    readAbout(angle, 3000000 + upTo(6000000), 2);
                }
            }
        }
        for (int round = 0; round < 3; round++) {
            for (int i = upTo(1); i >= 0; i--) {
                int at = upTo(many - 1);
                call("star", row[at], row[(at + 1) % many], upTo(FULL - 1), upTo(23));
            }
            for (int i = 0; i < 45; i++) {
                int at = upTo(many - 1);
                int to = row[oneIn(4) ? upTo(many - 1) : (at + (oneIn(2) ? 1 : many - 1)) % many];
                call("north", row[at], to);
                call("steps", row[at], to);
            }
        }
    }

    // ---- blunders among suspects

    private void blunders() {
        addMarks(4);
        int many = 1 + upTo(3);
        for (int t = 0; t < many; t++) {
            addTriangle(shuffled(4), new int[] {2160000, 2160000, 2160000}, new int[] {0, 2, 30}[chance.nextInt(3)]);
        }
        if (oneIn(2)) {
            int[] o = shuffled(4);
            int one = addAngle(o[0], o[1], o[2]);
            int other = addAngle(o[0], o[2], o[1]);
            readAbout(one, 2160000, 9);
            readAbout(other, FULL - 2160000, 9);
            call("round", one, other, -1, 0, 0, 0);
        }
        boolean alike = oneIn(2);
        for (int i = 1 + upTo(3); i > 0; i--) {
            read(upTo(angles - 1), 2160000 + (oneIn(2) ? 1 : -1) * (alike ? 600 : 200 + 400 * upTo(3)));
        }
        rule("close " + new int[] {0, 5, 40, 150, 300}[chance.nextInt(5)], 0, LAST_DAY);
        if (oneIn(3)) {
            rule("strike if off>" + upTo(900), 0, LAST_DAY);
        }
        int[] order = shuffled(readings);
        for (int round = 0; round < 3; round++) {
            int suspects = upTo(12);
            for (int i = 0; i < suspects && i < readings; i++) {
                // the latest ones are the blunders
                call("suspect", oneIn(3) ? readings - 1 - i : order[i]);
            }
            call("blunder");
            call("rivals");
            for (int i = 0; i < 5; i++) {
                call("guilty", i);
            }
            call("strike", upTo(readings - 1), 0, true);
            call("count", 10);
            call("wide");
            if (oneIn(3)) {
                call("clear");
            }
        }
    }

    // ---- what was known on a day

    private void days() {
        addMarks(4);
        for (int a = 0; a < 3; a++) {
            addAngle(a, 3, (a + 1) % 3);
        }
        while (!isOver() && !oneIn(400)) {
            day();
        }
    }

    private void day() {
        switch (chance.nextInt(8)) {
            case 0: pass(); break;
            case 1:
            case 2: tellReading(); break;
            case 3: call("strike", upTo(Math.max(0, readings - 1)), oneIn(5) ? 1 : 0, oneIn(2)); break;
            case 4:
                if (oneIn(3)) {
                    rule("strike if " + oneOf("off>" + upTo(40), "hour<" + upTo(12), "party=1", "count=" + upTo(9), "at=1")
                        + oneOf("", " and off>5", " and not hour>9", " or hour=7"), upTo(today + 2), today + 2 + upTo(4));
                } else {
                    call("force", upTo(4), upTo(today), today + upTo(3));
                }
                break;
            case 5: askReading(); break;
            case 6: call("led", upTo(2), upTo(4)); call("angleOf", upTo(2), upTo(10)); break;
            default:
                for (int i = 0; i < 6; i++) {
                    call("known", upTo(2), upTo(today));
                }
                break;
        }
    }

    private void tellReading() {
        if (oneIn(9)) {
            readings += number("read", upTo(2), 0x7FC00000 | upTo(99), upTo(23), upTo(2)) >= 0 ? 1 : 0;
        } else {
            read(upTo(2), 100 + upTo(50));
        }
    }

    private void askReading() {
        int r = upTo(Math.max(0, readings - 1));
        for (int what = 5; what <= 8; what++) {
            call("reading", r, what);
        }
    }

    // ---- what rules say

    private void rules() {
        addMarks(5);
        for (int a = 0; a < 5; a++) {
            addAngle(a, (a + 1) % 5, (a + 2) % 5);
            for (int i = upTo(4); i > 0; i--) {
                readAbout(a, 50 + upTo(9), upTo(20));
            }
        }
        while (!isOver() && !oneIn(60)) {
            askRules();
        }
    }

    private void askRules() {
        switch (chance.nextInt(6)) {
            case 0: rule("weight " + sum(3) + (oneIn(2) ? " if " + any(3) : ""), 0, oneIn(2) ? LAST_DAY : today); break;
            case 1: rule("again if " + any(4), 0, oneIn(2) ? LAST_DAY : today); break;
            case 2: rule(oneOf("least ", "close ") + sum(4), 0, oneIn(2) ? LAST_DAY : today); break;
            case 3: call("force", upTo(9), oneIn(2) ? today : today + 1, LAST_DAY); break;
            case 4:
                if (oneIn(4)) {
                    pass();
                } else {
                    call("strike", upTo(readings), 0, oneIn(2));
                }
                break;
            default:
                for (int a = 0; a < 5; a++) {
                    call("angleOf", a, 8);
                    call("angleOf", a, 9);
                }
                call("count", 13);
                call("told", upTo(1));
                break;
        }
    }

    private String sum(int depth) {
        String one = oneIn(2) ? oneOf("off", "hour", "party", "count", "spread", "kept", "at", "kept", "at") : "" + number();
        return depth == 0 || oneIn(3) ? one : one + oneOf("+", "-", "*", " * ", " - ") + sum(depth - 1);
    }

    private int number() {
        return oneIn(5) ? upTo(9999999) : upTo(9);
    }

    private String any(int depth) {
        switch (depth == 0 ? 4 : chance.nextInt(6)) {
            case 0: return any(depth - 1) + " or " + any(depth - 1);
            case 1: return any(depth - 1) + " and " + any(depth - 1);
            case 2: return "(" + any(depth - 1) + ")";
            case 3: return "not " + any(depth - 1);
            default: return sum(2) + oneOf("<", ">", "=") + sum(1);
        }
    }

    // ---- levels, masses, arcs, sights

    private void measures() {
        addMarks(5 + upTo(3));
        for (int i = 0; i < 60; i++) {
            call("cell", upTo(1023), upTo(60), upTo(20));
        }
        while (!isOver() && !oneIn(400)) {
            measure();
        }
    }

    private void measure() {
        int last = marks - 1;
        switch (chance.nextInt(9)) {
            case 0: call("level", upTo(2), upTo(2), upTo(900) - 450, upTo(23)); break;
            case 1: call("between", upTo(2), upTo(2)); break;
            case 2: call("doubt", upTo(2), upTo(2)); break;
            case 3: call("mass", upTo(1023), 1 + upTo(99999)); break;
            case 4: call("pull", upTo(last), oneIn(2)); break;
            case 5: call("arc", upTo(90), 360000 + upTo(4000)); break;
            case 6: call("figure", oneIn(2)); break;
            case 7: tellSight(); break;
            default: call("see", upTo(last), upTo(last), upTo(today + 1), upTo(23)); break;
        }
    }

    private void tellSight() {
        switch (chance.nextInt(4)) {
            case 0: call("tower", upTo(marks - 1), upTo(99)); break;
            case 1: call("lamp", upTo(marks - 1), oneIn(2)); break;
            case 2: call("haze", upTo(today + 1), upTo(23), upTo(20)); break;
            default: pass(); break;
        }
    }
}
