import java.math.BigInteger;
import java.util.ArrayList;
import java.util.Arrays;
import java.util.Collections;
import java.util.HashMap;
import java.util.List;
import java.util.Map;
import java.util.NoSuchElementException;
import java.util.TreeMap;
import java.util.TreeSet;

/**
 * A second, slow computing room, written from the document with the whole Java library and without
 * anything kept from call to call but what was told. FuzzTest lays its answers beside GreatArc's.
 */
public final class Plain {
    record Tower(int mark, int day, int high) { }
    record Hand(int reading, int day, boolean is) { }
    record Angle(int at, int from, int to) { }
    record Reading(int angle, Integer whole, int hour, int party, int day) { }
    record Base(int one, int other, int party, List<int[]> bars) { }
    record Triangle(int[] angles, int excess) { }
    record Star(int at, int to, int ticks) { }
    record Level(int from, int to, int up) { }

    private final int[] heights = new int[1024];
    private final int[] woods = new int[1024];
    private final List<Integer> marks = new ArrayList<>();
    private final List<Tower> towers = new ArrayList<>();
    private final TreeSet<Integer> lamps = new TreeSet<>();
    private final Map<Integer, Integer> hazes = new HashMap<>();
    private final List<Boolean> parties = new ArrayList<>();
    private final List<Angle> angles = new ArrayList<>();
    private final List<Reading> readings = new ArrayList<>();
    private final List<Hand> hands = new ArrayList<>();
    private final StringBuilder tape = new StringBuilder();
    private final List<Rule> rules = new ArrayList<>();
    private final List<Base> bases = new ArrayList<>();
    private final List<Triangle> triangles = new ArrayList<>();
    private final List<int[]> rounds = new ArrayList<>();
    private final List<Integer> suspects = new ArrayList<>();
    private final List<Star> stars = new ArrayList<>();
    private final List<Level> levels = new ArrayList<>();
    private final List<int[]> masses = new ArrayList<>();
    private final List<int[]> arcs = new ArrayList<>();
    private int grow = 11;
    private int today = 0;
    private int trouble = 0;
    private int fault = 0;
    private int place = 0;
    private List<Integer> guilt = new ArrayList<>();
    private int sets = 0;
    private Map<Integer, Fraction> changes = new HashMap<>();
    private Fraction least = null;
    private Path told = null;

    // ---- land

    private boolean no(int why) {
        trouble = why;
        return false;
    }

    private int none(int why) {
        trouble = why;
        return -1;
    }

    private int yes(int answer) {
        trouble = 0;
        return answer;
    }

    private static boolean in(int v, int lo, int hi) {
        return lo <= v && v <= hi;
    }

    private boolean isMark(int m) {
        return in(m, 0, marks.size() - 1);
    }

    private boolean two(int a, int b) {
        return isMark(a) && isMark(b) && a != b;
    }

    public boolean cell(int cell, int height, int trees) {
        if (!in(cell, 0, 1023)) {
            return no(1);
        }
        if (!in(height, 0, 2000) || !in(trees, 0, 90)) {
            return no(2);
        }
        heights[cell] = height;
        woods[cell] = trees;
        trouble = 0;
        return true;
    }

    public int mark(int cell) {
        if (!in(cell, 0, 1023)) {
            return none(1);
        }
        if (marks.contains(cell)) {
            return none(5);
        }
        if (marks.size() == 30) {
            return none(3);
        }
        marks.add(cell);
        return yes(marks.size() - 1);
    }

    public boolean tower(int mark, int high) {
        if (!isMark(mark)) {
            return no(1);
        }
        if (!in(high, 0, 99)) {
            return no(2);
        }
        towers.add(new Tower(mark, today, high));
        trouble = 0;
        return true;
    }

    public boolean lamp(int mark, boolean is) {
        if (!isMark(mark)) {
            return no(1);
        }
        if (is) {
            lamps.add(mark);
        } else {
            lamps.remove(mark);
        }
        trouble = 0;
        return true;
    }

    public boolean haze(int day, int hour, int reach) {
        if (!in(day, 0, 9999) || !in(hour, 0, 23) || !in(reach, 0, 32)) {
            return no(2);
        }
        if (hazes.size() == 200 && !hazes.containsKey(day * 100 + hour)) {
            return no(3);
        }
        hazes.put(day * 100 + hour, reach);
        trouble = 0;
        return true;
    }

    private int top(int mark, int day) {
        int high = 0;
        for (Tower t : towers) {
            if (t.mark == mark && t.day <= day) {
                high = t.high;
            }
        }
        return heights[marks.get(mark)] + 5 + high;
    }

    private static int down(double a) {
        return (int) Math.floor(a + 1e-9);
    }

    public int see(int from, int to, int day, int hour) {
        if (!two(from, to) || !in(day, 0, 9999) || !in(hour, 0, 23)) {
            return -1;
        }
        int x = marks.get(from) % 32;
        int y = marks.get(from) / 32;
        int dx = marks.get(to) % 32 - x;
        int dy = marks.get(to) / 32 - y;
        int n = Math.max(Math.abs(dx), Math.abs(dy));
        int reach = hazes.getOrDefault(day * 100 + hour, 32);
        if (lamps.contains(to) && !in(hour, 5, 19)) {
            reach *= 2;
        }
        if (n > reach) {
            return 1;
        }
        for (int k = 1; k <= n - 1; k++) {
            int cx = x + down((2.0 * k * dx + n) / (2 * n));
            int cy = y + down((2.0 * k * dy + n) / (2 * n));
            int cell = cy * 32 + cx;
            int what = heights[cell] + woods[cell] + down(k * (n - k) / 4.0);
            int line = down((top(from, day) * (n - k) + top(to, day) * k) / (double) n);
            if (!(what < line)) {
                return 1 + k;
            }
        }
        return 0;
    }

    // ---- parties, angles, readings

    public int party(boolean chief) {
        if (parties.size() == 8) {
            return none(3);
        }
        parties.add(chief);
        return yes(parties.size() - 1);
    }

    private boolean isParty(int p) {
        return in(p, 0, parties.size() - 1);
    }

    private boolean isAngle(int a) {
        return in(a, 0, angles.size() - 1);
    }

    public int angle(int at, int from, int to) {
        if (!isMark(at) || !isMark(from) || !isMark(to)) {
            return none(1);
        }
        if (new TreeSet<>(List.of(at, from)).size() < 2 || to == at || to == from) {
            return none(5);
        }
        if (angles.size() == 80) {
            return none(3);
        }
        angles.add(new Angle(at, from, to));
        return yes(angles.size() - 1);
    }

    public int read(int angle, int bits, int hour, int party) {
        if (!isAngle(angle) || !isParty(party)) {
            return none(1);
        }
        float f = Float.intBitsToFloat(bits);
        boolean seen = f == f;
        if (!in(hour, 0, 23)) {
            return none(2);
        }
        double cut = seen ? (f < 0 ? Math.ceil(f) : Math.floor(f)) : 0;
        if (cut < 0 || cut > 12959999) {
            return none(2);
        }
        if (of(angle, 9999).size() == 20) {
            return none(3);
        }
        readings.add(new Reading(angle, seen ? (Integer) (int) cut : null, hour, party, today));
        return yes(readings.size() - 1);
    }

    /** The numbers of an angle's readings up to a day. */
    private List<Integer> of(int angle, int day) {
        List<Integer> own = new ArrayList<>();
        for (int r = 0; r < readings.size(); r++) {
            if (readings.get(r).angle == angle && readings.get(r).day <= day) {
                own.add(r);
            }
        }
        return own;
    }

    private List<Integer> seen(int angle, int day) {
        List<Integer> own = of(angle, day);
        own.removeIf(r -> readings.get(r).whole == null);
        return own;
    }

    private Integer middle(int angle, int day) {
        List<Integer> wholes = new ArrayList<>();
        for (int r : seen(angle, day)) {
            wholes.add(readings.get(r).whole);
        }
        Collections.sort(wholes);
        if (wholes.isEmpty()) {
            return null;
        }
        int half = wholes.size() / 2;
        return wholes.get(wholes.size() % 2 == 0 ? half - 1 : half);
    }

    private boolean byHand(int reading, int day) {
        boolean struck = false;
        for (Hand h : hands) {
            if (h.reading == reading && h.day <= day) {
                struck = h.is;
            }
        }
        return struck;
    }

    private int striker(int reading, int day) {
        Reading r = readings.get(reading);
        if (r.whole == null) {
            return -2;
        }
        Map<String, Integer> facts = new HashMap<>();
        facts.put("off", Math.abs(r.whole - middle(r.angle, day)));
        facts.put("hour", r.hour);
        facts.put("party", r.party);
        facts.put("count", seen(r.angle, day).size());
        facts.put("at", angles.get(r.angle).at);
        for (int i = 0; i < rules.size(); i++) {
            Rule rule = rules.get(i);
            if (rule.act.equals("strike") && rule.inForce(r.day) && rule.holds(facts)) {
                return i;
            }
        }
        return -2;
    }

    private List<Integer> kept(int angle, int day) {
        List<Integer> own = seen(angle, day);
        own.removeIf(r -> byHand(r, day) || striker(r, day) != -2);
        return own;
    }

    private Integer mean(int angle, int day, List<Integer> without) {
        List<Integer> own = kept(angle, day);
        own.removeAll(without);
        if (own.isEmpty()) {
            return null;
        }
        long sum = 0;
        for (int r : own) {
            sum += readings.get(r).whole;
        }
        return (int) (sum / own.size());
    }

    private Integer mean(int angle) {
        return mean(angle, 9999, List.of());
    }

    private int extreme(int angle, boolean most) {
        int found = -2;
        for (int r : kept(angle, 9999)) {
            int w = readings.get(r).whole;
            if (found == -2 || (most ? w > found : w < found)) {
                found = w;
            }
        }
        return found;
    }

    public int reading(int reading, int what) {
        if (!in(reading, 0, readings.size() - 1) || !in(what, 0, 8)) {
            return -1;
        }
        Reading r = readings.get(reading);
        int whole = r.whole == null ? -2 : r.whole;
        int[] all = {r.angle, whole, r.hour, r.party, r.day, byHand(reading, 9999) ? 1 : 0, striker(reading, 9999),
            kept(r.angle, 9999).contains(reading) ? 1 : 0,
            r.whole == null ? -2 : Math.abs(r.whole - middle(r.angle, 9999))};
        return all[what];
    }

    public boolean strike(int reading, int party, boolean is) {
        if (!in(reading, 0, readings.size() - 1) || !isParty(party)) {
            return no(1);
        }
        if (!parties.get(party) || readings.get(reading).whole == null || byHand(reading, 9999) == is) {
            return no(5);
        }
        hands.add(new Hand(reading, today, is));
        trouble = 0;
        return true;
    }

    private Map<String, Integer> facts(int angle) {
        Map<String, Integer> facts = new HashMap<>();
        int kept = kept(angle, 9999).size();
        facts.put("count", seen(angle, 9999).size());
        facts.put("kept", kept);
        facts.put("spread", kept == 0 ? 0 : extreme(angle, true) - extreme(angle, false));
        facts.put("at", angles.get(angle).at);
        return facts;
    }

    private int weight(int angle) {
        for (Rule rule : rules) {
            if (rule.act.equals("weight") && rule.inForce(today) && rule.holds(facts(angle))) {
                long sum = rule.sum(facts(angle));
                return sum < 1 ? 1 : sum > 9 ? 9 : (int) sum;
            }
        }
        return 1;
    }

    private boolean again(int angle) {
        boolean is = kept(angle, 9999).isEmpty();
        for (Rule rule : rules) {
            is |= rule.act.equals("again") && rule.inForce(today) && rule.holds(facts(angle));
        }
        return is;
    }

    public int angleOf(int angle, int what) {
        if (!isAngle(angle)) {
            return -1;
        }
        int kept = kept(angle, 9999).size();
        switch (what) {
            case 0: return kept == 0 ? -2 : mean(angle);
            case 1: return kept == 0 ? -2 : extreme(angle, true) - extreme(angle, false);
            case 2: return extreme(angle, false);
            case 3: return extreme(angle, true);
            case 4: return kept;
            case 5: return seen(angle, 9999).size();
            case 6: return of(angle, 9999).size();
            case 7: return middle(angle, 9999) == null ? -2 : middle(angle, 9999);
            case 8: return weight(angle);
            case 9: return again(angle) ? 1 : 0;
            case 10: return angles.get(angle).at;
            default: return -1;
        }
    }

    public int known(int angle, int day) {
        if (!isAngle(angle) || !in(day, 0, today)) {
            return -1;
        }
        Integer mean = mean(angle, day, List.of());
        return mean == null ? -2 : mean;
    }

    public int led(int angle, int i) {
        if (!isAngle(angle) || !in(i, 0, kept(angle, 9999).size() - 1)) {
            throw new NoSuchElementException();
        }
        return kept(angle, 9999).get(i);
    }

    // ---- rules

    static final class Fault extends RuntimeException {
        final int number;
        final int place;

        Fault(int number, int place) {
            this.number = number;
            this.place = place;
        }
    }

    interface Sum {
        long of(Map<String, Integer> facts);
    }

    interface Any {
        boolean is(Map<String, Integer> facts);
    }

    static final class Rule {
        String act;
        Sum sum;
        Any any;
        int from;
        int to;

        boolean inForce(int day) {
            return in(day, from, to);
        }

        boolean holds(Map<String, Integer> facts) {
            return any == null || any.is(facts);
        }

        long sum(Map<String, Integer> facts) {
            return sum.of(facts);
        }
    }

    /** Recursive, and with its tokens cut ahead, where GreatArc's is neither. */
    static final class Reader {
        record Token(String text, int place) { }

        static final List<String> JOINTS = List.of("if", "and", "or", "not");
        final List<Token> tokens = new ArrayList<>();
        int next = 0;
        int operands = 0;

        Reader(String text) {
            int i = 0;
            while (i < text.length()) {
                char c = text.charAt(i);
                int end = i;
                if (c == ' ') {
                    i++;
                    continue;
                }
                if (c >= 'a' && c <= 'z') {
                    while (end < text.length() && text.charAt(end) >= 'a' && text.charAt(end) <= 'z') {
                        end++;
                    }
                    tokens.add(new Token(end - i > 8 ? "?" : text.substring(i, end), i));
                } else if (c >= '0' && c <= '9') {
                    while (end < text.length() && text.charAt(end) >= '0' && text.charAt(end) <= '9') {
                        end++;
                    }
                    tokens.add(new Token(end - i > 7 ? "?" : text.substring(i, end), i));
                } else {
                    end = i + 1;
                    tokens.add(new Token("<>=+-*()".indexOf(c) < 0 ? "?" : "" + c, i));
                }
                i = end;
            }
            tokens.add(new Token("", text.length()));
        }

        String see() {
            return tokens.get(next).text;
        }

        boolean isWord() {
            return !see().isEmpty() && see().charAt(0) >= 'a' && see().charAt(0) <= 'z';
        }

        Fault fault(int number) {
            return new Fault(number, tokens.get(next).place);
        }

        void expect(String text) {
            if (!see().equals(text)) {
                throw fault(1);
            }
            next++;
        }

        Rule rule() {
            Rule rule = new Rule();
            if (!isWord() || JOINTS.contains(see())) {
                throw fault(1);
            }
            if (!List.of("strike", "weight", "again", "least", "close").contains(see())) {
                throw fault(2);
            }
            rule.act = see();
            next++;
            if (rule.act.equals("strike") || rule.act.equals("again")) {
                expect("if");
                rule.any = any(0);
            } else {
                rule.sum = sum();
                if (rule.act.equals("weight") && see().equals("if")) {
                    next++;
                    rule.any = any(0);
                }
            }
            if (!see().isEmpty()) {
                throw fault(1);
            }
            return rule;
        }

        Any any(int open) {
            Any left = all(open);
            while (see().equals("or")) {
                next++;
                Any a = left;
                Any b = all(open);
                left = f -> a.is(f) || b.is(f);
            }
            return left;
        }

        Any all(int open) {
            Any left = one(open, 0);
            while (see().equals("and")) {
                next++;
                Any a = left;
                Any b = one(open, 0);
                left = f -> a.is(f) && b.is(f);
            }
            return left;
        }

        Any one(int open, int nots) {
            if (see().equals("not")) {
                if (nots == 8) {
                    throw fault(3);
                }
                next++;
                Any a = one(open, nots + 1);
                return f -> !a.is(f);
            }
            if (see().equals("(")) {
                if (open == 8) {
                    throw fault(3);
                }
                next++;
                Any a = any(open + 1);
                expect(")");
                return a;
            }
            Sum a = sum();
            String sign = see();
            if (!sign.equals("<") && !sign.equals(">") && !sign.equals("=")) {
                throw fault(1);
            }
            next++;
            Sum b = sum();
            return f -> {
                int order = Long.compare(a.of(f), b.of(f));
                return sign.equals("<") ? order < 0 : sign.equals(">") ? order > 0 : order == 0;
            };
        }

        static long bound(long v) {
            return v > 1000000000 ? 1000000000 : v < -1000000000 ? -1000000000 : v;
        }

        Sum sum() {
            Sum left = term();
            while (see().equals("+") || see().equals("-")) {
                int sign = see().equals("+") ? 1 : -1;
                next++;
                Sum a = left;
                Sum b = term();
                left = f -> bound(a.of(f) + sign * b.of(f));
            }
            return left;
        }

        Sum term() {
            Sum left = part();
            while (see().equals("*")) {
                next++;
                Sum a = left;
                Sum b = part();
                left = f -> bound(a.of(f) * b.of(f));
            }
            return left;
        }

        Sum part() {
            String text = see();
            boolean number = !text.isEmpty() && text.charAt(0) >= '0' && text.charAt(0) <= '9';
            if (!number) {
                if (!isWord() || JOINTS.contains(text)) {
                    throw fault(1);
                }
                if (!List.of("off", "hour", "party", "count", "spread", "kept", "at").contains(text)) {
                    throw fault(2);
                }
            }
            if (operands == 30) {
                throw fault(3);
            }
            operands++;
            next++;
            return number ? f -> Long.parseLong(text) : f -> f.getOrDefault(text, 0);
        }
    }

    public int feed(int a, int b, int c, int d, int e) {
        if (tape.length() > 280) {
            return -1;
        }
        for (int v : new int[] {a, b, c, d, e}) {
            tape.append((char) (v >> 24 & 255)).append((char) (v >> 16 & 255));
            tape.append((char) (v >> 8 & 255)).append((char) (v & 255));
        }
        return tape.length();
    }

    private static boolean time(int from, int to) {
        return in(from, 0, 9999) && in(to, 0, 9999) && from <= to;
    }

    public int rule(int n, int from, int to) {
        if (!in(n, 0, tape.length()) || !time(from, to)) {
            return none(2);
        }
        String text = tape.substring(0, n);
        tape.setLength(0);
        Rule rule;
        try {
            rule = new Reader(text).rule();
        } catch (Fault f) {
            fault = f.number;
            place = f.place;
            return none(4);
        }
        fault = 0;
        if (rules.size() == 24) {
            return none(3);
        }
        rule.from = from;
        rule.to = to;
        rules.add(rule);
        return yes(rules.size() - 1);
    }

    public int fault() {
        return fault;
    }

    public int where() {
        return trouble == 4 ? place : -1;
    }

    public boolean force(int rule, int from, int to) {
        if (!in(rule, 0, rules.size() - 1)) {
            return no(1);
        }
        if (!time(from, to)) {
            return no(2);
        }
        rules.get(rule).from = from;
        rules.get(rule).to = to;
        trouble = 0;
        return true;
    }

    private int latest(String act, int otherwise) {
        long value = otherwise;
        for (Rule rule : rules) {
            if (rule.act.equals(act) && rule.inForce(today)) {
                value = rule.sum(Map.of());
            }
        }
        return (int) value;
    }

    private int allowed() {
        return Math.max(0, latest("close", 100));
    }

    public int told(int what) {
        return what == 0 ? latest("least", 0) : what == 1 ? allowed() : -1;
    }

    // ---- bases

    private static boolean same(Base b, int one, int other) {
        return b.one == one && b.other == other || b.one == other && b.other == one;
    }

    private boolean isBase(int b) {
        return in(b, 0, bases.size() - 1);
    }

    public int base(int one, int other, int party) {
        if (!isMark(one) || !isMark(other) || !isParty(party)) {
            return none(1);
        }
        int like = 0;
        boolean own = false;
        for (Base b : bases) {
            if (same(b, one, other)) {
                like++;
                own |= b.party == party;
            }
        }
        if (one == other || like == 2 || own) {
            return none(5);
        }
        if (bases.size() == 6) {
            return none(3);
        }
        bases.add(new Base(one, other, party, new ArrayList<>()));
        return yes(bases.size() - 1);
    }

    public int bar(int base, int length, int heat, int rise) {
        if (!isBase(base)) {
            return none(1);
        }
        if (!in(length, 1000, 100000) || !in(heat, -20, 60) || !in(rise, 0, 999) || rise >= length) {
            return none(2);
        }
        if (bases.get(base).bars.size() == 40) {
            return none(3);
        }
        bases.get(base).bars.add(new int[] {length, heat, rise});
        return yes(bases.get(base).bars.size());
    }

    public boolean growth(int v) {
        if (!in(v, 0, 50)) {
            return no(2);
        }
        grow = v;
        trouble = 0;
        return true;
    }

    private int length(Base base) {
        long sum = 0;
        for (int[] bar : base.bars) {
            BigInteger warm = BigInteger.valueOf(bar[0]).multiply(BigInteger.valueOf(grow))
                .multiply(BigInteger.valueOf(bar[1] - 15)).divide(BigInteger.valueOf(100000));
            sum += bar[0] + warm.longValue() - bar[2] * bar[2] / (2 * bar[0]);
        }
        return (int) sum;
    }

    /** Least, most, and whether laid again. */
    private int[] span(int number) {
        Base base = bases.get(number);
        int lo = length(base) - base.bars.size();
        int hi = length(base) + base.bars.size();
        for (Base b : bases) {
            if (b != base && same(b, base.one, base.other)) {
                int lo2 = length(b) - b.bars.size();
                int hi2 = length(b) + b.bars.size();
                if (Math.max(lo, lo2) <= Math.min(hi, hi2)) {
                    return new int[] {Math.max(lo, lo2), Math.min(hi, hi2), 1};
                }
                return new int[] {Math.min(lo, lo2), Math.max(hi, hi2), 2};
            }
        }
        return new int[] {lo, hi, 0};
    }

    public int baseOf(int base, int what) {
        if (!isBase(base)) {
            return -1;
        }
        switch (what) {
            case 0: return length(bases.get(base));
            case 1: return bases.get(base).bars.size();
            case 2: return span(base)[0];
            case 3: return span(base)[1];
            case 4: return span(base)[2];
            default: return -1;
        }
    }

    // ---- triangles, rounds, adjusting

    public int triangle(int a, int b, int c, int excess) {
        if (!isAngle(a) || !isAngle(b) || !isAngle(c)) {
            return none(1);
        }
        if (!in(excess, 0, 9999)) {
            return none(2);
        }
        TreeSet<Integer> corners = new TreeSet<>();
        for (int x : new int[] {a, b, c}) {
            corners.add(angles.get(x).at);
        }
        boolean good = corners.size() == 3;
        for (int x : new int[] {a, b, c}) {
            good &= corners.contains(angles.get(x).from) && corners.contains(angles.get(x).to);
        }
        if (!good) {
            return none(5);
        }
        if (triangles.size() == 30) {
            return none(3);
        }
        triangles.add(new Triangle(new int[] {a, b, c}, excess));
        return yes(triangles.size() - 1);
    }

    private static List<Integer> ahead(int... row) {
        List<Integer> some = new ArrayList<>();
        for (int x : row) {
            if (x == -1) {
                break;
            }
            some.add(x);
        }
        return some;
    }

    public int round(int a, int b, int c, int d, int e, int f) {
        List<Integer> row = ahead(a, b, c, d, e, f);
        for (int x : row) {
            if (!isAngle(x)) {
                return none(1);
            }
        }
        boolean good = row.size() >= 2 && new TreeSet<>(row).size() == row.size();
        for (int i = 0; i < row.size(); i++) {
            Angle now = angles.get(row.get(i));
            Angle then = angles.get(row.get((i + 1) % row.size()));
            good &= now.at == then.at && now.to == then.from;
        }
        if (!good) {
            return none(5);
        }
        if (rounds.size() == 12) {
            return none(3);
        }
        rounds.add(row.stream().mapToInt(x -> x).toArray());
        return yes(rounds.size() - 1);
    }

    private Integer miss(int[] members, int due, List<Integer> without) {
        int sum = 0;
        for (int a : members) {
            Integer mean = mean(a, 9999, without);
            if (mean == null) {
                return null;
            }
            sum += mean;
        }
        return sum - due;
    }

    private Integer missOfTriangle(int t, List<Integer> without) {
        return miss(triangles.get(t).angles, 6480000 + triangles.get(t).excess, without);
    }

    private Integer missOfRound(int r, List<Integer> without) {
        return miss(rounds.get(r), 12960000, without);
    }

    public int miss(int number, boolean round) {
        if (!in(number, 0, (round ? rounds.size() : triangles.size()) - 1)) {
            return Integer.MIN_VALUE;
        }
        Integer miss = round ? missOfRound(number, List.of()) : missOfTriangle(number, List.of());
        return miss == null ? Integer.MIN_VALUE : miss;
    }

    private boolean isWell(int t) {
        for (int a : triangles.get(t).angles) {
            if (mean(a) == null || mean(a) < latest("least", 0)) {
                return false;
            }
        }
        return true;
    }

    public int well(int triangle) {
        return in(triangle, 0, triangles.size() - 1) ? (isWell(triangle) ? 1 : 0) : -1;
    }

    private int wide(List<Integer> without) {
        int wide = 0;
        for (int t = 0; t < triangles.size(); t++) {
            Integer miss = missOfTriangle(t, without);
            wide += miss != null && Math.abs(miss) > allowed() ? 1 : 0;
        }
        for (int r = 0; r < rounds.size(); r++) {
            Integer miss = missOfRound(r, without);
            wide += miss != null && Math.abs(miss) > allowed() ? 1 : 0;
        }
        return wide;
    }

    public int wide() {
        return wide(List.of());
    }

    record Fraction(BigInteger up, BigInteger down) {
        static final Fraction ZERO = of(0);

        static Fraction of(long v) {
            return new Fraction(BigInteger.valueOf(v), BigInteger.ONE);
        }

        static Fraction lowest(BigInteger up, BigInteger down) {
            BigInteger g = up.gcd(down);
            BigInteger s = BigInteger.valueOf(down.signum());
            return new Fraction(up.divide(g).multiply(s), down.divide(g).multiply(s));
        }

        Fraction minus(Fraction o) {
            return lowest(up.multiply(o.down).subtract(o.up.multiply(down)), down.multiply(o.down));
        }

        Fraction plus(Fraction o) {
            return lowest(up.multiply(o.down).add(o.up.multiply(down)), down.multiply(o.down));
        }

        Fraction times(Fraction o) {
            return lowest(up.multiply(o.up), down.multiply(o.down));
        }

        Fraction by(Fraction o) {
            return lowest(up.multiply(o.down), down.multiply(o.up));
        }

        boolean isZero() {
            return up.signum() == 0;
        }

        BigInteger thousandths() {
            BigInteger[] qr = up.multiply(BigInteger.valueOf(1000)).divideAndRemainder(down);
            return qr[1].signum() < 0 ? qr[0].subtract(BigInteger.ONE) : qr[0];
        }
    }

    /** Solves the whole system of changes and factors at once, in fractions; null if it can't be. */
    private static Fraction[] solve(Fraction[][] m) {
        int n = m.length;
        for (int k = 0; k < n; k++) {
            int p = k;
            while (p < n && m[p][k].isZero()) {
                p++;
            }
            if (p == n) {
                return null;
            }
            Fraction[] swap = m[p];
            m[p] = m[k];
            m[k] = swap;
            for (int i = 0; i < n; i++) {
                if (i != k && !m[i][k].isZero()) {
                    Fraction times = m[i][k].by(m[k][k]);
                    for (int j = k; j <= n; j++) {
                        m[i][j] = m[i][j].minus(times.times(m[k][j]));
                    }
                }
            }
        }
        Fraction[] x = new Fraction[n];
        for (int i = 0; i < n; i++) {
            x[i] = m[i][n].by(m[i][i]);
        }
        return x;
    }

    public int adjust(int triangleBits, int roundBits) {
        List<int[]> conditions = new ArrayList<>();
        List<Integer> misses = new ArrayList<>();
        for (int b = 0; b < 32; b++) {
            if ((triangleBits >>> b & 1) == 1) {
                if (b >= triangles.size()) {
                    return none(1);
                }
                conditions.add(triangles.get(b).angles);
                misses.add(missOfTriangle(b, List.of()));
            }
        }
        for (int b = 0; b < 32; b++) {
            if ((roundBits >>> b & 1) == 1) {
                if (b >= rounds.size()) {
                    return none(1);
                }
                conditions.add(rounds.get(b));
                misses.add(missOfRound(b, List.of()));
            }
        }
        if (conditions.isEmpty()) {
            return none(1);
        }
        if (conditions.size() > 6) {
            return none(7);
        }
        if (misses.contains(null)) {
            return none(5);
        }
        TreeSet<Integer> members = new TreeSet<>();
        for (int[] c : conditions) {
            for (int a : c) {
                members.add(a);
            }
        }
        List<Integer> unknowns = new ArrayList<>(members);
        int n = unknowns.size();
        int size = n + conditions.size();
        Fraction[][] m = new Fraction[size][size + 1];
        for (Fraction[] row : m) {
            Arrays.fill(row, Fraction.ZERO);
        }
        for (int i = 0; i < n; i++) {
            m[i][i] = Fraction.of(weight(unknowns.get(i)));
        }
        for (int c = 0; c < conditions.size(); c++) {
            for (int a : conditions.get(c)) {
                m[unknowns.indexOf(a)][n + c] = Fraction.of(-1);
                m[n + c][unknowns.indexOf(a)] = Fraction.of(1);
            }
            m[n + c][size] = Fraction.of(-misses.get(c));
        }
        Fraction[] x = solve(m);
        if (x == null) {
            return none(6);
        }
        changes = new HashMap<>();
        least = Fraction.ZERO;
        for (int i = 0; i < n; i++) {
            changes.put(unknowns.get(i), x[i]);
            least = least.plus(x[i].times(x[i]).times(Fraction.of(weight(unknowns.get(i)))));
        }
        return yes(n);
    }

    public int change(int angle) {
        if (!changes.containsKey(angle)) {
            return Integer.MIN_VALUE;
        }
        BigInteger v = changes.get(angle).thousandths();
        return v.bitLength() > 31 ? Integer.MIN_VALUE : v.intValue();
    }

    public int part(int angle, boolean denominator) {
        if (!changes.containsKey(angle)) {
            return Integer.MIN_VALUE;
        }
        Fraction f = changes.get(angle);
        BigInteger limit = BigInteger.valueOf(1000000000);
        if (f.up.abs().compareTo(limit) >= 0 || f.down.compareTo(limit) >= 0) {
            return Integer.MIN_VALUE;
        }
        return (denominator ? f.down : f.up).intValue();
    }

    public long cost() {
        if (least == null || least.thousandths().bitLength() > 63) {
            return Long.MIN_VALUE;
        }
        return least.thousandths().longValue();
    }

    // ---- sides and chains

    private static int sineOf(int seconds) {
        BigInteger u = BigInteger.valueOf(seconds).multiply(BigInteger.valueOf(648000 - seconds));
        return u.multiply(BigInteger.valueOf(4000000)).divide(BigInteger.valueOf(524880000000L).subtract(u)).intValue();
    }

    public int sine(int ticks) {
        return in(ticks, 0, 6480000) ? sineOf(ticks / 10) : -1;
    }

    /** Least and most over all seconds, one by one where these are few. */
    private int[] sines(int angle) {
        int first = extreme(angle, false) / 10;
        int last = extreme(angle, true) / 10;
        int lo = Integer.MAX_VALUE;
        int hi = Integer.MIN_VALUE;
        int stride = last - first < 3000 ? 1 : (last - first) / 1000;
        for (int u = first; u <= last; u += stride) {
            lo = Math.min(lo, sineOf(u));
            hi = Math.max(hi, sineOf(u));
        }
        lo = Math.min(lo, sineOf(last));
        hi = Math.max(hi, sineOf(last));
        if (first <= 324000 && 324000 <= last) {
            hi = Math.max(hi, sineOf(324000));
        }
        return new int[] {lo, hi};
    }

    private boolean carries(int t) {
        for (int a : triangles.get(t).angles) {
            if (mean(a) == null || extreme(a, false) < 36000 || extreme(a, true) > 6444000) {
                return false;
            }
        }
        return true;
    }

    /** The side opposite a triangle's i-th angle, as a text that sorts by its lesser mark, then the other one. */
    private String opposite(int t, int i) {
        Angle a = angles.get(triangles.get(t).angles[i]);
        return side(a.from, a.to);
    }

    private static String side(int one, int other) {
        return String.format("%02d-%02d", Math.min(one, other), Math.max(one, other));
    }

    record Path(List<Integer> links, List<String> sides, long least, long most) {
        long span() {
            return most - least;
        }

        boolean before(Path o) {
            if (span() != o.span()) {
                return span() < o.span();
            }
            if (links.size() != o.links.size()) {
                return links.size() < o.links.size();
            }
            for (int i = 0; i < links.size(); i++) {
                if (!links.get(i).equals(o.links.get(i))) {
                    return links.get(i) < o.links.get(i);
                }
            }
            for (int i = 0; i < sides.size(); i++) {
                if (!sides.get(i).equals(o.sides.get(i))) {
                    return sides.get(i).compareTo(o.sides.get(i)) < 0;
                }
            }
            return false;
        }
    }

    private Path best;

    private void follow(Path path, String at, String target, Map<Integer, int[][]> sines) {
        if (at.equals(target) && (best == null || path.before(best))) {
            best = path;
        }
        if (path.links.size() == 6) {
            return;
        }
        for (int t : sines.keySet()) {
            for (int old = 0; old < 3 && !path.links.contains(t); old++) {
                if (!opposite(t, old).equals(at)) {
                    continue;
                }
                for (int fresh = 0; fresh < 3; fresh++) {
                    if (fresh == old) {
                        continue;
                    }
                    int[][] s = sines.get(t);
                    long lo = path.least * s[fresh][0] / s[old][1];
                    long hi = (path.most * s[fresh][1] + s[old][0] - 1) / s[old][0];
                    if (hi > 1000000000) {
                        continue;
                    }
                    List<Integer> links = new ArrayList<>(path.links);
                    links.add(t);
                    List<String> sides = new ArrayList<>(path.sides);
                    sides.add(opposite(t, fresh));
                    follow(new Path(links, sides, lo, hi), opposite(t, fresh), target, sines);
                }
            }
        }
    }

    private int seek(int base, String target) {
        Map<Integer, int[][]> sines = new TreeMap<>();
        int well = 0;
        for (int t = 0; t < triangles.size(); t++) {
            if (isWell(t)) {
                well++;
                if (carries(t)) {
                    int[] a = triangles.get(t).angles;
                    sines.put(t, new int[][] {sines(a[0]), sines(a[1]), sines(a[2])});
                }
            }
        }
        if (well > 8) {
            return 7;
        }
        best = null;
        int[] span = span(base);
        Base b = bases.get(base);
        follow(new Path(List.of(), List.of(), span[0], span[1]), side(b.one, b.other), target, sines);
        if (best == null) {
            return 5;
        }
        told = best;
        return 0;
    }

    public int chain(int base, int one, int other) {
        if (!isBase(base) || !two(one, other)) {
            return none(1);
        }
        int why = seek(base, side(one, other));
        return why != 0 ? none(why) : yes((int) told.span());
    }

    public int link(int i) {
        return told == null || !in(i, 0, told.links.size() - 1) ? -1 : told.links.get(i);
    }

    public int side(boolean most) {
        return told == null ? -1 : (int) (most ? told.most : told.least);
    }

    public int close(int from, int to) {
        if (!isBase(from) || !isBase(to) || same(bases.get(from), bases.get(to).one, bases.get(to).other)) {
            return none(1);
        }
        int why = seek(from, side(bases.get(to).one, bases.get(to).other));
        if (why != 0) {
            return none(why);
        }
        int[] own = span(to);
        long gap = own[0] > told.most ? own[0] - told.most : told.least > own[1] ? told.least - own[1] : 0;
        return yes((int) gap);
    }

    /** Whether some way of sides leads over the first n triangles (and ends at the target, if there is one). */
    private boolean leads(List<Integer> row, int n, int i, String at, String target) {
        if (i == n) {
            return target == null || at.equals(target);
        }
        for (int old = 0; old < 3; old++) {
            for (int fresh = 0; fresh < 3; fresh++) {
                if (old != fresh && opposite(row.get(i), old).equals(at)
                    && leads(row, n, i + 1, opposite(row.get(i), fresh), target)) {
                    return true;
                }
            }
        }
        return false;
    }

    public int check(int base, int one, int other, int a, int b, int c, int d, int e, int f) {
        List<Integer> row = ahead(a, b, c, d, e, f);
        boolean are = isBase(base) && two(one, other) && !row.isEmpty();
        for (int t : row) {
            are &= in(t, 0, triangles.size() - 1);
        }
        if (!are) {
            return none(1);
        }
        String start = side(bases.get(base).one, bases.get(base).other);
        for (int i = 0; i < row.size(); i++) {
            int t = row.get(i);
            boolean last = i == row.size() - 1;
            if (!isWell(t) || Math.abs(missOfTriangle(t, List.of())) > allowed() || !carries(t)
                || row.indexOf(t) < i || !leads(row, i + 1, 0, start, last ? side(one, other) : null)) {
                return yes(1 + i);
            }
        }
        return yes(0);
    }

    // ---- blunders

    private boolean isKept(int reading) {
        return kept(readings.get(reading).angle, 9999).contains(reading);
    }

    public int suspect(int reading) {
        if (!in(reading, 0, readings.size() - 1)) {
            return none(1);
        }
        if (!isKept(reading) || suspects.contains(reading)) {
            return none(5);
        }
        if (suspects.size() == 12) {
            return none(3);
        }
        suspects.add(reading);
        return yes(suspects.size());
    }

    public int clear() {
        int were = suspects.size();
        suspects.clear();
        return were;
    }

    public int blunder() {
        List<Integer> live = new ArrayList<>(new TreeSet<>(suspects));
        live.removeIf(r -> !isKept(r));
        List<Integer> first = null;
        int many = 0;
        for (int bits = 0; bits < 1 << live.size(); bits++) {
            List<Integer> set = new ArrayList<>();
            for (int i = 0; i < live.size(); i++) {
                if ((bits >> i & 1) == 1) {
                    set.add(live.get(i));
                }
            }
            if (first != null && set.size() > first.size()) {
                continue;
            }
            boolean good = true;
            for (int r : set) {
                good &= mean(readings.get(r).angle, 9999, set) != null;
            }
            if (!good || wide(set) > 0) {
                continue;
            }
            if (first == null || set.size() < first.size()) {
                first = set;
                many = 1;
            } else {
                many++;
                for (int i = 0; i < set.size(); i++) {
                    if (!set.get(i).equals(first.get(i))) {
                        first = set.get(i) < first.get(i) ? set : first;
                        break;
                    }
                }
            }
        }
        if (first == null) {
            return -2;
        }
        guilt = first;
        sets = many;
        return first.size();
    }

    public int guilty(int i) {
        return in(i, 0, guilt.size() - 1) ? guilt.get(i) : -1;
    }

    public int rivals() {
        return sets;
    }

    // ---- stars, levels, masses, figure

    public int star(int at, int to, int ticks, int hour) {
        if (!two(at, to)) {
            return none(1);
        }
        if (!in(ticks, 0, 12959999) || !in(hour, 0, 23)) {
            return none(2);
        }
        if (stars.size() == 20) {
            return none(3);
        }
        stars.add(new Star(at, to, ticks));
        return yes(stars.size() - 1);
    }

    /** How a sight's north was come by: from which star, over which angles. */
    record Way(int mark, List<Integer> row, int north) {
        boolean before(Way o) {
            if (o == null || row.size() != o.row.size()) {
                return o == null || row.size() < o.row.size();
            }
            if (mark != o.mark) {
                return mark < o.mark;
            }
            for (int i = 0; i < row.size(); i++) {
                if (!row.get(i).equals(o.row.get(i))) {
                    return row.get(i) < o.row.get(i);
                }
            }
            return false;
        }
    }

    private Integer starMean(int at, int to) {
        long sum = 0;
        int n = 0;
        for (Star s : stars) {
            if (s.at == at && s.to == to) {
                sum += s.ticks;
                n++;
            }
        }
        return n == 0 ? null : (int) (sum / n);
    }

    private boolean hasStar(int a, int b) {
        return starMean(a, b) != null || starMean(b, a) != null;
    }

    /** Betters all ways until none can be bettered. */
    private Way wayTo(int at, int to) {
        int n = marks.size();
        Way[][] way = new Way[n][n];
        for (int a = 0; a < n; a++) {
            for (int b = 0; b < n; b++) {
                if (starMean(a, b) != null) {
                    way[a][b] = new Way(a, List.of(), starMean(a, b));
                } else if (starMean(b, a) != null) {
                    way[a][b] = new Way(b, List.of(), (starMean(b, a) + 6480000) % 12960000);
                }
            }
        }
        boolean more = true;
        while (more) {
            more = false;
            for (int i = 0; i < angles.size(); i++) {
                Angle g = angles.get(i);
                if (mean(i) == null) {
                    continue;
                }
                for (int turn = 0; turn < 2; turn++) {
                    int from = turn == 0 ? g.from : g.to;
                    int other = turn == 0 ? g.to : g.from;
                    Way old = way[g.at][from];
                    if (old == null || hasStar(g.at, other)) {
                        continue;
                    }
                    List<Integer> row = new ArrayList<>(old.row);
                    row.add(i);
                    int north = Math.floorMod(old.north + (turn == 0 ? mean(i) : -mean(i)), 12960000);
                    Way now = new Way(old.mark, row, north);
                    if (now.before(way[g.at][other])) {
                        way[g.at][other] = now;
                        way[other][g.at] = new Way(old.mark, row, (north + 6480000) % 12960000);
                        more = true;
                    }
                }
            }
        }
        return way[at][to];
    }

    public int north(int at, int to) {
        if (!two(at, to)) {
            return -1;
        }
        Way way = wayTo(at, to);
        return way == null ? -2 : way.north;
    }

    public int steps(int at, int to) {
        if (!two(at, to)) {
            return -1;
        }
        Way way = wayTo(at, to);
        return way == null ? -2 : way.row.size();
    }

    public int level(int from, int to, int up, int hour) {
        if (!two(from, to)) {
            return none(1);
        }
        if (!in(up, -1000000, 1000000) || !in(hour, 0, 23)) {
            return none(2);
        }
        if (levels.size() == 60) {
            return none(3);
        }
        levels.add(new Level(from, to, up));
        return yes(levels.size() - 1);
    }

    private Integer meanLevel(int from, int to) {
        int sum = 0;
        int n = 0;
        for (Level l : levels) {
            if (l.from == from && l.to == to) {
                sum += l.up;
                n++;
            }
        }
        return n == 0 ? null : (int) Math.floor((double) sum / n);
    }

    public int between(int one, int other) {
        Integer there = two(one, other) ? meanLevel(one, other) : null;
        Integer back = two(one, other) ? meanLevel(other, one) : null;
        if (there != null && back != null) {
            return (there - back) / 2;
        }
        return there != null ? there : back != null ? -back : Integer.MIN_VALUE;
    }

    public int doubt(int one, int other) {
        int high = between(one, other);
        if (high == Integer.MIN_VALUE) {
            return -1;
        }
        if (meanLevel(one, other) != null && meanLevel(other, one) != null) {
            return 0;
        }
        return (int) Math.ceil(Math.abs(high) / 100.0) + 10;
    }

    public int mass(int cell, int heavy) {
        if (!in(cell, 0, 1023)) {
            return none(1);
        }
        if (!in(heavy, 1, 1000000)) {
            return none(2);
        }
        if (masses.size() == 12) {
            return none(3);
        }
        masses.add(new int[] {cell, heavy});
        return yes(masses.size() - 1);
    }

    public int pull(int mark, boolean y) {
        if (!isMark(mark)) {
            return Integer.MIN_VALUE;
        }
        int sum = 0;
        for (int[] m : masses) {
            int dx = m[0] % 32 - marks.get(mark) % 32;
            int dy = m[0] / 32 - marks.get(mark) / 32;
            if (dx != 0 || dy != 0) {
                sum += (int) ((double) m[1] * (y ? dy : dx) / (dx * dx + dy * dy));
            }
        }
        return sum;
    }

    public int arc(int degree, int length) {
        if (!in(degree, 0, 90) || !in(length, 1, 1000000)) {
            return none(2);
        }
        if (arcs.size() == 30) {
            return none(3);
        }
        arcs.add(new int[] {degree, length});
        return yes(arcs.size() - 1);
    }

    /** By the middle of all degrees and lengths, where GreatArc goes by sums. */
    public long figure(boolean p) {
        TreeSet<Integer> degrees = new TreeSet<>();
        Fraction n = Fraction.of(arcs.size());
        Fraction x = Fraction.ZERO;
        Fraction y = Fraction.ZERO;
        for (int[] a : arcs) {
            degrees.add(a[0]);
            x = x.plus(Fraction.of(a[0]).by(n));
            y = y.plus(Fraction.of(a[1]).by(n));
        }
        if (degrees.size() < 2) {
            return Long.MIN_VALUE;
        }
        Fraction xy = Fraction.ZERO;
        Fraction xx = Fraction.ZERO;
        for (int[] a : arcs) {
            Fraction dx = Fraction.of(a[0]).minus(x);
            xy = xy.plus(dx.times(Fraction.of(a[1]).minus(y)));
            xx = xx.plus(dx.times(dx));
        }
        Fraction q = xy.by(xx);
        return (p ? y.minus(q.times(x)) : q).thousandths().longValueExact();
    }

    // ---- days

    public int pass(int days) {
        if (!in(days, 1, 1000) || today + days > 9999) {
            return none(2);
        }
        today += days;
        return yes(today);
    }

    public int count(int what) {
        int again = 0;
        for (int a = 0; a < angles.size(); a++) {
            again += again(a) ? 1 : 0;
        }
        int[] all = {marks.size(), angles.size(), readings.size(), rules.size(), bases.size(), triangles.size(),
            rounds.size(), parties.size(), stars.size(), levels.size(), suspects.size(), today, tape.length(), again};
        return in(what, 0, 13) ? all[what] : -1;
    }

    public int trouble() {
        return trouble;
    }
}
