/** Promises 35 to 40: sines, sides carried over triangles, the best chain, and chains that are told. */
public final class ChainTest {
    private static final int SIXTY = 2160000;

    public static void main(String[] args) {
        sines();
        carrying();
        fromEachSide();
        spread();
        unable();
        unableBesideAble();
        longest();
        roundingEdges();
        order();
        fewestBehindLonger();
        sixAtMost();
        lesserSide();
        lesserOfTied();
        shrinksLater();
        withoutBars();
        roundAbout();
        manyWell();
        closing();
        checking();
        checkedSides();
        checkedTriangles();
        Check.end();
    }

    private static void sines() {
        Check.says(35, "VII. SINE of whole seconds u (a tenth of TICKS, downwards) of HALF's 648,000: 4,000,000 times u times "
            + "(648,000 - u) by (524,880,000,000 less u times (648,000 - u)), downwards: millionths.");
        GreatArc x = new GreatArc();
        Check.due(35, "-1", x.sine(-1), -1);
        Check.due(35, "0", x.sine(0), 0);
        Check.due(35, "9 ticks are 0 seconds", x.sine(9), 0);
        // 4,000,000 * 1 * 647,999 by 524,879,352,001 is 4.9
        Check.due(35, "1 second", x.sine(10), 4);
        Check.due(35, "19 ticks are 1 second", x.sine(19), 4);
        Check.due(35, "2 seconds", x.sine(20), 9);
        Check.due(35, "2 seconds", x.sine(29), 9);
        Check.due(35, "30 degrees", x.sine(1080000), 500000);
        Check.due(35, "30 degrees less a tick", x.sine(1079999), 499995);
        Check.due(35, "37.5 degrees", x.sine(1350000), 608000);
        Check.due(35, "142.5 degrees", x.sine(5130000), 608000);
        Check.due(35, "90 degrees", x.sine(3240000), 1000000);
        Check.due(35, "150 degrees", x.sine(5400000), 500000);
        Check.due(35, "a second less than HALF", x.sine(6479990), 4);
        Check.due(35, "a tick less than HALF", x.sine(6479999), 4);
        Check.says(35, "SINE of TICKS (0 .. 6,480,000); NONE.");
        Check.due(35, "far below", x.sine(Integer.MIN_VALUE), -1);
        Check.due(35, "far beyond", x.sine(Integer.MAX_VALUE), -1);
        Check.due(35, "HALF", x.sine(6480000), 0);
        Check.due(35, "beyond", x.sine(6480001), -1);
        for (int ticks = 0; ticks <= 6480000; ticks += 9973) {
            long u = ticks / 10;
            long w = u * (648000 - u);
            Check.due(35, "sine of " + ticks, new GreatArc().sine(ticks), 4000000 * w / (524880000000L - w));
        }
    }

    /** A triangle of the marks with one reading for each angle. */
    private static int triangle(GreatArc x, int[] marks, int... means) {
        int[] a = new int[3];
        for (int i = 0; i < 3; i++) {
            a[i] = x.angle(marks[i], marks[(i + 1) % 3], marks[(i + 2) % 3]);
            Check.read(x, a[i], means[i]);
        }
        return x.triangle(a[0], a[1], a[2], 0);
    }

    private static GreatArc withBase(int marks, int length) {
        GreatArc x = Check.room(marks);
        x.base(0, 1, 0);
        x.bar(0, length, 15, 0);
        return x;
    }

    private static int[] of(int... marks) {
        return marks;
    }

    private static void links(GreatArc x, int... links) {
        for (int i = 0; i < links.length; i++) {
            Check.due(37, "link " + i, x.link(i), links[i]);
        }
        Check.due(37, "behind the last", x.link(links.length), -1);
        Check.due(37, "ahead of the first", x.link(-1), -1);
    }

    private static void carrying() {
        Check.says(36, "CHAIN from a BASE to two MARKS: the span (most less least). NONE: 1 (one MARK twice, too); 7; 5 (none).");
        GreatArc x = withBase(4, 10000);
        Check.refused(36, x, "one mark twice", x.chain(0, 0, 0), 1);
        Check.says(38, "The side's least (or most) there; NONE ahead of any.");
        Check.due(38, "ahead of any that told a number", x.side(true), -1);
        Check.due(38, "ahead of any that told a number", x.side(false), -1);
        Check.says(37, "The i-th TRIANGLE of the latest chain() that told a number; NONE.");
        links(x);
        Check.refused(36, x, "no base", x.chain(1, 0, 1), 1);
        Check.refused(36, x, "no base", x.chain(-1, 0, 1), 1);
        Check.refused(36, x, "no mark", x.chain(0, 0, 4), 1);
        Check.refused(36, x, "no mark", x.chain(0, -1, 0), 1);
        Check.refused(36, x, "one mark twice", x.chain(0, 2, 2), 1);
        Check.refused(36, x, "no chain", x.chain(0, 1, 2), 5);
        Check.due(38, "ahead of any", x.side(true), -1);
        Check.told(36, x, "the base itself", x.chain(0, 1, 0), 2);
        links(x);
        Check.due(38, "least", x.side(false), 9999);
        Check.due(38, "most", x.side(true), 10001);
        triangle(x, of(0, 1, 2), 3240000, 1080000, SIXTY);
        // side 1-2 lies opposite the right angle, the base opposite the one with the sine of 864,864
        Check.told(36, x, "chain", x.chain(0, 1, 2), 11564 - 11561);
        Check.due(38, "9,999,000,000 by 864,864 downwards", x.side(false), 11561);
        Check.due(38, "10,001,000,000 by 864,864 upwards", x.side(true), 11564);
        links(x, 0);
        Check.told(36, x, "chain", x.chain(0, 2, 0), 5782 - 5780);
        Check.due(38, "4,999,500,000 by 864,864", x.side(false), 5780);
        Check.due(38, "5,000,500,000 by 864,864", x.side(true), 5782);
        Check.refused(36, x, "to a mark of no triangle", x.chain(0, 2, 3), 5);
        Check.due(38, "the latest that told a number", x.side(true), 5782);
        x.chain(0, 2, 2);
        x.chain(5, 0, 1);
        links(x, 0);
        Check.due(38, "the latest that told a number", x.side(false), 5780);
        triangle(x, of(3, 2, 1), SIXTY, SIXTY, SIXTY);
        Check.told(36, x, "over two", x.chain(0, 2, 3), 3);
        links(x, 0, 1);
        Check.due(38, "least", x.side(false), 11561);
        Check.rule(x, "least 1080001");
        Check.refused(36, x, "triangle 0 isn't well", x.chain(0, 2, 3), 5);
        links(x, 0, 1);
    }

    /** Each side of a triangle as the base's, and each other one as what it is carried to. */
    private static void fromEachSide() {
        Check.says(36, "SIDE spans: a BASE's SPAN (JOINED, if it was LAID AGAIN), carried over a TRIANGLE from the side of two of "
            + "its MARKS to another of its sides: least: side's least times SINE's least of the ANGLE opposite the new one by "
            + "SINE's most of the ANGLE opposite the old one, downwards; most: the other way about, upwards;");
        int[][] means = {{1111110, 2222220, 3146670}, {4000000, 500000, 1980000}, {3240000, 3200000, 40000}};
        for (int[] m : means) {
            for (int from = 0; from < 3; from++) {
                for (int to = 0; to < 3; to++) {
                    GreatArc x = Check.room(3);
                    x.base((from + 1) % 3, (from + 2) % 3, 0);
                    x.bar(0, 12345, 15, 0);
                    triangle(x, of(0, 1, 2), m);
                    long[] want = {12344, 12346};
                    if (from != to) {
                        want = carried(m, from, to, want);
                    }
                    Check.told(36, x, "from " + from + " to " + to, x.chain(0, (to + 2) % 3, (to + 1) % 3), want[1] - want[0]);
                    Check.due(38, "least", x.side(false), want[0]);
                    Check.due(38, "most", x.side(true), want[1]);
                }
            }
        }
    }

    private static long sine(int ticks) {
        long w = (ticks / 10) * (648000L - ticks / 10);
        return 4000000 * w / (524880000000L - w);
    }

    /** A span carried over a triangle of marks 0, 1, 2, each side named by the mark that it lies opposite. */
    private static long[] carried(int[] means, int from, int to, long[] span) {
        long old = sine(means[from]);
        return new long[] {span[0] * sine(means[to]) / old, (span[1] * sine(means[to]) + old - 1) / old};
    }

    private static void spread() {
        Check.says(36, "SINE's least and most are those over all whole seconds from LEAST to MOST of the ANGLE (of the ANGLE's "
            + "LEAST and MOST READINGS).");
        GreatArc x = withBase(3, 10000);
        triangle(x, of(0, 1, 2), 3240000 - 90000, 1080000, SIXTY);
        Check.read(x, 0, 3240000 + 180000);
        Check.read(x, 2, SIXTY + 36009);
        int sharp = x.sine(SIXTY);
        int blunt = x.sine(SIXTY + 36000);
        int low = x.sine(3240000 + 180000);
        // from 87.5 to 95 degrees: the most is at 90, the least at 95
        x.chain(0, 1, 2);
        Check.due(38, "least", x.side(false), 9999L * low / blunt);
        Check.due(38, "most", x.side(true), (10001L * 1000000 + sharp - 1) / sharp);
        x.read(0, Check.bits(3240000 - 360000), 3, 0);
        x.chain(0, 1, 2);
        Check.due(38, "from 80 degrees on", x.side(false), 9999L * x.sine(3240000 - 360000) / blunt);
        x.strike(x.count(2) - 1, 0, true);
        x.chain(0, 1, 2);
        Check.due(38, "of kept ones alone", x.side(false), 9999L * low / blunt);
        x.bar(0, 5000, 15, 0);
        x.base(1, 0, 1);
        x.bar(1, 15003, 15, 0);
        // 14,998 .. 15,002 and 15,002 .. 15,004
        Check.told(36, x, "joined", x.chain(1, 0, 1), 0);
        Check.due(38, "joined", x.side(false), 15002);
    }

    private static void unable() {
        Check.says(36, "A TRIANGLE with an ANGLE without KEPT ones, or whose LEAST is below 36,000 or MOST above 6,444,000, carries "
            + "nothing,");
        for (int i = 0; i < 6; i++) {
            GreatArc x = withBase(3, 10000);
            int[] told = {36000, 6408000, 36000};
            int[][] odd = {{36000, 36000}, {35999, 36000}, {36000, 35999}, {6444000, 36000}, {6444001, 36000}, {0, 36000}};
            triangle(x, of(0, 1, 2), told);
            Check.read(x, i == 3 || i == 4 ? 1 : 0, odd[i][0]);
            Check.read(x, 2, odd[i][1]);
            boolean able = i == 0 || i == 3;
            Check.due(36, "edge " + i, x.chain(0, 1, 2) >= 0, able);
            Check.due(36, "trouble of edge " + i, x.trouble(), able ? 0 : 5);
            Check.rule(x, "close 9999999");
            Check.due(40, "edge " + i, x.check(0, 1, 2, 0, -1, 0, 0, 0, 0), able ? 0 : 1);
        }
    }

    /** Of two triangles with unlike angles one may carry nothing: the other one does, wherever it stands. */
    private static void unableBesideAble() {
        int[][] orders = {{0, 1}, {1, 0}};
        for (int i = 0; i < 12; i++) {
            GreatArc x = withBase(4, 10000);
            int[] beyond = {SIXTY, SIXTY, SIXTY};
            beyond[i % 3] = i < 6 ? 35999 : 6444001;
            int[] triangles = {-1, -1};
            for (int which : orders[i / 3 % 2]) {
                triangles[which] = which == 0 ? triangle(x, of(0, 1, 2), SIXTY, SIXTY, SIXTY) : triangle(x, of(0, 1, 3), beyond);
            }
            Check.told(36, x, "over the able one", x.chain(0, 1, 2), 2);
            links(x, triangles[0]);
            Check.refused(36, x, "over the other one", x.chain(0, 1, 3), 5);
            Check.due(29, "it is well", x.well(triangles[1]), 1);
        }
        GreatArc x = withBase(3, 10000);
        triangle(x, of(0, 1, 2), SIXTY, SIXTY, SIXTY);
        x.strike(1, 0, true);
        Check.refused(36, x, "without kept ones", x.chain(0, 1, 2), 5);
        x.strike(1, 0, false);
        Check.told(36, x, "with them", x.chain(0, 1, 2), 2);
    }

    private static void longest() {
        Check.says(36, "and nothing is carried whose most would be above 1,000,000,000.");
        GreatArc x = withBase(5, 100000);
        // the base opposite the 1 degree, carried to the side opposite 89: times 56.3 each
        triangle(x, of(2, 0, 1), 36000, 3204000, 3240000);
        triangle(x, of(3, 0, 2), 36000, 3204000, 3240000);
        triangle(x, of(4, 0, 3), 36000, 3204000, 3240000);
        // 5,631,000 after one, 317,000,000 after two; beyond 1,000,000,000 after three
        Check.due(36, "one", x.chain(0, 0, 2) > 0, true);
        Check.due(36, "two", x.chain(0, 0, 3) > 0, true);
        Check.due(38, "two", x.side(true) > 300000000, true);
        Check.refused(36, x, "three", x.chain(0, 0, 4), 5);
        Check.rule(x, "close 9999999");
        Check.told(40, x, "whatever the lengths", x.check(0, 0, 4, 0, 1, 2, -1, 0, 0), 0);
    }

    /** Marks 0, 1, 2 with the base opposite the first angle, and 0, 2, 3 with side 0-2 opposite the first. */
    private static GreatArc twoSteps(int lastBar, int... means) {
        GreatArc x = withBase(4, lastBar);
        for (int i = 0; i < 3; i++) {
            x.bar(0, 100000, 15, 0);
        }
        triangle(x, of(2, 0, 1), means[0], 6480000 - means[0] - means[1], means[1]);
        triangle(x, of(3, 0, 2), means[2], 6480000 - means[2] - means[3], means[3]);
        return x;
    }

    private static void roundingEdges() {
        Check.says(36, "nothing is carried whose most would be above 1,000,000,000.");
        // found by search: carried up to 1,000,000,000 just so, and to one more
        GreatArc x = twoSteps(19909, 36070, 3220040, 36450, 3210450);
        Check.due(36, "one step", x.chain(0, 0, 2) > 0, true);
        Check.due(38, "one step", x.side(true), 17980870);
        Check.due(36, "just so", x.chain(0, 0, 3) > 0, true);
        Check.due(38, "just so", x.side(true), 1000000000);
        GreatArc y = twoSteps(18764, 36280, 3220410, 36110, 3214110);
        Check.due(36, "one step", y.chain(0, 0, 2) > 0, true);
        Check.due(38, "one step", y.side(true), 17812425);
        Check.refused(36, y, "one more", y.chain(0, 0, 3), 5);
        // 66,159 times the one sine is 1 more than the other goes into it
        GreatArc z = withBase(3, 66158);
        triangle(z, of(2, 0, 1), 754490, 6480000 - 754490 - 1123800, 1123800);
        Check.due(35, "a rest of 1", 66159L * z.sine(1123800) % z.sine(754490), 1);
        z.chain(0, 0, 2);
        Check.due(38, "upwards for it", z.side(true), 66159L * z.sine(1123800) / z.sine(754490) + 1);
        // a long base tells the sine of 90 degrees from that of a second beside
        GreatArc w = withBase(3, 100000);
        for (int i = 1; i < 40; i++) {
            w.bar(0, 100000, 15, 0);
        }
        triangle(w, of(2, 0, 1), 2160000, 1080000, 3239990);
        Check.read(w, 2, 3240009);
        long sharp = w.sine(2160000);
        w.chain(0, 0, 2);
        Check.due(38, "89 degrees 59:59 to 90", w.side(true), (4000040L * 1000000 + sharp - 1) / sharp);
        Check.due(38, "least of both", w.side(false), 3999960L * w.sine(3239990) / sharp);
        w.strike(2, 0, true);
        Check.read(w, 2, 3240010);
        w.chain(0, 0, 2);
        Check.due(38, "90 degrees to 90 and a second", w.side(true), (4000040L * 1000000 + sharp - 1) / sharp);
        w.strike(3, 0, true);
        w.chain(0, 0, 2);
        Check.due(38, "a second more alone", w.side(true), (4000040L * w.sine(3240010) + sharp - 1) / sharp);
    }

    /** The longer way is met first, the shorter one with greater numbers is as good. */
    private static void fewestBehindLonger() {
        Check.says(36, "of as good ones with the fewest TRIANGLES, then with the lesser TRIANGLE where they first differ,");
        GreatArc x = withBase(5, 10000);
        triangle(x, of(0, 1, 2), SIXTY, SIXTY, SIXTY);
        triangle(x, of(1, 2, 3), SIXTY, SIXTY, SIXTY);
        triangle(x, of(2, 3, 4), SIXTY, SIXTY, SIXTY);
        Check.told(36, x, "three", x.chain(0, 3, 4), 2);
        links(x, 0, 1, 2);
        triangle(x, of(0, 1, 3), SIXTY, SIXTY, SIXTY);
        triangle(x, of(1, 3, 4), SIXTY, SIXTY, SIXTY);
        Check.told(36, x, "two", x.chain(0, 3, 4), 2);
        links(x, 3, 4);
        triangle(x, of(4, 3, 0), SIXTY, SIXTY, SIXTY);
        Check.told(36, x, "the lesser where they differ", x.chain(0, 3, 4), 2);
        links(x, 3, 4);
    }

    private static void sixAtMost() {
        Check.says(36, "CHAIN from a BASE to two MARKS: none, one, or up to 6 TRIANGLES, one behind the other, none twice, each of "
            + "which carries the side that it has from the one ahead (the first the BASE's) to another of its sides, the last to "
            + "the two MARKS';");
        GreatArc x = withBase(9, 10000);
        for (int t = 0; t < 7; t++) {
            triangle(x, of(t, t + 1, t + 2), SIXTY, SIXTY, SIXTY);
            if (t < 6) {
                Check.told(36, x, "to the end of " + (t + 1), x.chain(0, t + 1, t + 2), 2);
                Check.due(37, "the last", x.link(t), t);
                Check.due(37, "none behind it", x.link(t + 1), -1);
            }
        }
        Check.refused(36, x, "a seventh", x.chain(0, 7, 8), 5);
        Check.told(40, x, "six that stand", x.check(0, 6, 7, 0, 1, 2, 3, 4, 5), 0);
        Check.told(40, x, "six that end elsewhere", x.check(0, 7, 8, 0, 1, 2, 3, 4, 5), 6);
    }

    /** Found by search: two ways over the same row of triangles end 1 wide, at 1,120 and at 605. */
    private static void lesserSide() {
        GreatArc x = withBase(3, 5790);
        int[][] means = {{2759927, 420012, 3299782}, {1679853, 1980166, 2819764}, {1140251, 2219700, 3120111}};
        for (int[] m : means) {
            triangle(x, of(0, 1, 2), m);
        }
        Check.told(36, x, "1 wide", x.chain(0, 0, 2), 1);
        links(x, 1, 2, 0);
        Check.due(38, "over the lesser side", x.side(false), 1120);
    }

    /** Ways over the same row of triangles, found by search, that end as wide: by marks 0-1-2 the sides are 1-2, 0-2, 0-1. */
    private static void lesserOfTied() {
        Check.says(36, "then with the lesser side (by its lesser MARK, then the other one) where these do.");
        tied(2, 2875, new int[] {0, 2, 1}, 1,
            new int[][] {{900000, 2100000, 3480000}, {2100000, 1200000, 3180000}, {3600000, 2100000, 780000}});
        tied(2, 2840, new int[] {0, 1, 2}, 0,
            new int[][] {{2700000, 2100000, 1680000}, {3600000, 2100000, 780000}, {1500000, 2100000, 2880000}});
        tied(0, 1447, new int[] {0, 1}, 0,
            new int[][] {{3600000, 1200000, 1680000}, {600000, 2400000, 3480000}});
        tied(0, 3639, new int[] {0, 2, 1}, 2,
            new int[][] {{3000000, 600000, 2880000}, {3000000, 2100000, 1380000}, {1200000, 2100000, 3180000}});
        tied(0, 2971, new int[] {2, 0, 1}, 1,
            new int[][] {{600000, 2400000, 3480000}, {2700000, 600000, 3180000}, {2100000, 2100000, 2280000}});
    }

    private static void tied(int base, int length, int[] row, int target, int[][] means) {
        GreatArc x = Check.room(3);
        x.base((base + 1) % 3, (base + 2) % 3, 0);
        x.bar(0, length, 15, 0);
        for (int[] m : means) {
            triangle(x, of(0, 1, 2), m);
        }
        int width = x.chain(0, (target + 1) % 3, (target + 2) % 3);
        links(x, row);
        // the lesser side is the one opposite the greater mark, so that from 2 down they are met in order
        long[] first = null;
        int ways = 0;
        for (int code = 0; code < 27; code++) {
            long[] span = {length - 1, length + 1};
            int side = base;
            for (int i = 0; i < row.length && side >= 0; i++) {
                int to = 2 - code / (i == 0 ? 9 : i == 1 ? 3 : 1) % 3;
                span = to == side ? span : carried(means[row[i]], side, to, span);
                side = to == side ? -1 : to;
            }
            if (side == target && span[1] - span[0] == width && (row.length == 3 || code % 3 == 0)) {
                ways++;
                first = first == null ? span : first;
            }
        }
        Check.due(36, "there are some ways", ways >= 2, true);
        Check.due(38, "least over the lesser side", x.side(false), first[0]);
        Check.due(38, "most over the lesser side", x.side(true), first[1]);
    }

    /** One way is met first and ends narrow; the other is wider than that on its way, and narrower at its end. */
    private static void shrinksLater() {
        Check.says(36, "the CHAIN whose span at the end (most less least) is least,");
        // the side carried to lies opposite 6 degrees, that carried from opposite 87 or 168
        int[][] last = {{216000, 3132000, 3132000}, {216000, 216000, 6048000}};
        int[] apart = {200, 50};
        int[] marks = {0, 2, 3};
        for (int i = 0; i < 6; i++) {
            GreatArc x = withBase(4, 100000);
            for (int b = 1; b < 40; b++) {
                x.bar(0, 100000, 15, 0);
            }
            triangle(x, of(0, 1, 2), SIXTY, SIXTY, SIXTY);
            triangle(x, of(1, 2, 3), SIXTY, SIXTY, SIXTY);
            Check.read(x, 1, SIXTY + apart[i / 3]);
            long sixty = sine(SIXTY);
            long high = (4000040 * sine(SIXTY + apart[i / 3]) + sixty - 1) / sixty;
            Check.told(36, x, "the one way", x.chain(0, 2, 3), 80);
            links(x, 0, 1);
            Check.told(36, x, "on the other way, wider than that", x.chain(0, 0, 2), high - 3999960);
            int[] m = last[i / 3];
            int turn = i % 3;
            triangle(x, of(marks[turn], marks[(turn + 1) % 3], marks[(turn + 2) % 3]), m[turn], m[(turn + 1) % 3], m[(turn + 2) % 3]);
            long least = 3999960 * sine(m[0]) / sine(m[2]);
            long most = (high * sine(m[0]) + sine(m[2]) - 1) / sine(m[2]);
            Check.told(36, x, "the other way", x.chain(0, 2, 3), most - least);
            Check.due(36, "is narrower at its end alone", high - 3999960 > 80 && most - least < 80, true);
            links(x, 0, 2);
        }
    }

    /** A base without bars spans 0 to 0, and so does all that is carried from it. */
    private static void withoutBars() {
        Check.says(36, "the CHAIN whose span at the end (most less least) is least,");
        GreatArc x = Check.room(4);
        x.base(0, 1, 0);
        triangle(x, of(0, 1, 2), SIXTY, SIXTY, SIXTY);
        triangle(x, of(0, 1, 2), SIXTY, SIXTY, SIXTY);
        triangle(x, of(1, 2, 3), SIXTY, SIXTY, SIXTY);
        Check.told(36, x, "to its own marks", x.chain(0, 0, 1), 0);
        links(x);
        Check.told(36, x, "over one", x.chain(0, 1, 2), 0);
        links(x, 0);
        Check.told(36, x, "over two", x.chain(0, 3, 2), 0);
        links(x, 0, 2);
        Check.due(38, "least", x.side(false), 0);
        Check.due(38, "most", x.side(true), 0);
        Check.refused(36, x, "to marks of no side", x.chain(0, 0, 3), 5);
    }

    private static void order() {
        Check.says(36, "the CHAIN whose span at the end (most less least) is least, of as good ones with the fewest TRIANGLES,");
        GreatArc x = withBase(4, 10000);
        triangle(x, of(0, 1, 3), SIXTY, SIXTY, SIXTY);
        triangle(x, of(1, 2, 3), SIXTY, SIXTY, SIXTY);
        Check.told(36, x, "over 3", x.chain(0, 1, 2), 2);
        links(x, 0, 1);
        triangle(x, of(2, 0, 1), SIXTY, SIXTY, SIXTY);
        Check.told(36, x, "as good with fewer", x.chain(0, 1, 2), 2);
        links(x, 2);
        triangle(x, of(0, 1, 2), SIXTY, SIXTY, SIXTY);
        Check.told(36, x, "as good with the lesser", x.chain(0, 1, 2), 2);
        links(x, 2);
        // spoil them: then the two over 3 are better, and they may begin at 0 alone
        Check.read(x, 6, SIXTY + 400);
        Check.read(x, 9, SIXTY + 400);
        Check.told(36, x, "the better span though longer", x.chain(0, 1, 2), 2);
        links(x, 0, 1);
        Check.told(36, x, "the base itself is best", x.chain(0, 0, 1), 2);
        links(x);
    }

    /** The way back to the base's own side may be shorter, and then its span less. */
    private static void roundAbout() {
        Check.says(36, "up to 6 TRIANGLES, one behind the other, none twice,");
        GreatArc x = withBase(3, 100000);
        for (int i = 0; i < 9; i++) {
            x.bar(0, 100000, 15, 0);
        }
        triangle(x, of(0, 1, 2), 1080000, 2160000, 3240000);
        triangle(x, of(0, 1, 2), 2160000, 3240000, 1080000);
        // 20 wide; to 1-2 by 500,000 by 1,000,000, and back by 500,000 by 864,864
        Check.told(36, x, "over two triangles", x.chain(0, 0, 1), 7);
        links(x, 0, 1);
        long least = 999990L * 500000 / 1000000;
        long most = (1000010L * 500000 + 999999) / 1000000;
        Check.due(38, "least", x.side(false), least * 500000 / 864864);
        Check.due(38, "most", x.side(true), (most * 500000 + 864863) / 864864);
    }

    private static void manyWell() {
        Check.says(36, "All of them WELL; if more than 8 TRIANGLES are WELL it is refused.");
        GreatArc x = withBase(3, 10000);
        for (int t = 0; t < 8; t++) {
            triangle(x, of(0, 1, 2), SIXTY, SIXTY, SIXTY);
        }
        Check.told(36, x, "eight are well", x.chain(0, 1, 2), 2);
        triangle(x, of(0, 1, 2), 35000, 35000, 35000);
        Check.refused(36, x, "nine, though one carries nothing", x.chain(0, 1, 2), 7);
        Check.refused(36, x, "and for the base's own side", x.chain(0, 0, 1), 7);
        x.base(1, 2, 0);
        Check.refused(39, x, "close", x.close(0, 1), 7);
        Check.rule(x, "least 35001");
        Check.told(36, x, "eight again", x.chain(0, 1, 2), 2);
    }

    private static void apart() {
        Check.says(39, "CLOSE: what is carried to a second BASE's MARKS against its own SPAN: by how much they are apart (0 if they "
            + "meet).");
        // 9,999 .. 10,001 is carried, as all sines are alike
        int[] lengths = {9000, 9997, 9998, 9999, 10000, 10001, 10002, 10003, 11000};
        int[] apart = {998, 1, 0, 0, 0, 0, 0, 1, 998};
        for (int i = 0; i < lengths.length; i++) {
            GreatArc x = withBase(3, 10000);
            triangle(x, of(0, 1, 2), SIXTY, SIXTY, SIXTY);
            x.base(2, 1, 0);
            x.bar(1, lengths[i], 15, 0);
            Check.told(39, x, "10,000 to " + lengths[i], x.close(0, 1), apart[i]);
            Check.due(38, "what is carried", x.side(true), 10001);
            links(x, 0);
        }
    }

    private static void closing() {
        apart();
        Check.says(39, "CLOSE from a BASE to another one over the CHAIN to its MARKS (link() and side() tell of it then). NONE: 1 "
            + "(the same MARKS, too); 7; 5.");
        GreatArc x = withBase(4, 10000);
        x.base(1, 0, 1);
        x.bar(1, 10000, 15, 0);
        x.base(2, 1, 0);
        x.base(2, 3, 0);
        Check.refused(39, x, "no base", x.close(0, 4), 1);
        Check.refused(39, x, "no base", x.close(-1, 0), 1);
        Check.refused(39, x, "no base", x.close(0, -1), 1);
        Check.refused(39, x, "far from any base", x.close(Integer.MAX_VALUE, Integer.MIN_VALUE), 1);
        Check.refused(39, x, "the same", x.close(0, 0), 1);
        Check.refused(39, x, "the same marks", x.close(0, 1), 1);
        Check.refused(39, x, "no chain", x.close(0, 2), 5);
        triangle(x, of(0, 1, 2), SIXTY, SIXTY, SIXTY);
        Check.told(39, x, "9,999 to 0", x.close(0, 2), 9999);
        links(x, 0);
        Check.due(38, "side", x.side(true), 10001);
        x.bar(2, 9990, 15, 0);
        Check.told(39, x, "9,999 to 9,991", x.close(0, 2), 8);
        x.bar(2, 1000, 15, 0);
        Check.told(39, x, "10,001 to 10,988", x.close(0, 2), 987);
        Check.told(39, x, "back", x.close(2, 0), 987);
        Check.due(38, "side", x.side(false), 10988);
        x.base(1, 2, 1);
        x.bar(4, 10000, 15, 0);
        // torn now: from 9,999 to 10,992
        Check.told(39, x, "they meet", x.close(0, 2), 0);
        Check.due(39, "trouble ahead of one that isn't refused", x.mark(-1), -1);
        Check.told(39, x, "they meet", x.close(1, 2), 0);
        Check.refused(39, x, "the same marks", x.close(2, 4), 1);
        Check.refused(39, x, "none to 3", x.close(0, 3), 5);
    }

    private static void checking() {
        Check.says(40, "CHECKED: a CHAIN of TRIANGLES (the first -1 ends them) from a BASE to two MARKS. NONE: 1 (BASE, MARKS, one "
            + "MARK twice, a TRIANGLE, none at all).");
        GreatArc x = withBase(5, 10000);
        int t0 = triangle(x, of(0, 1, 2), SIXTY, SIXTY, SIXTY);
        int t1 = triangle(x, of(1, 2, 3), SIXTY, SIXTY, SIXTY);
        int t2 = triangle(x, of(2, 3, 4), SIXTY, SIXTY, SIXTY + 101);
        int t3 = triangle(x, of(0, 1, 2), SIXTY, SIXTY, SIXTY);
        int t4 = triangle(x, of(2, 3, 4), SIXTY - 50, SIXTY - 50, SIXTY);
        Check.refused(40, x, "no base", x.check(1, 0, 1, 0, -1, 0, 0, 0, 0), 1);
        Check.refused(40, x, "no mark", x.check(0, 5, 1, 0, -1, 0, 0, 0, 0), 1);
        Check.refused(40, x, "one mark twice", x.check(0, 1, 1, 0, -1, 0, 0, 0, 0), 1);
        Check.refused(40, x, "no triangle", x.check(0, 0, 2, 0, 5, -1, 0, 0, 0), 1);
        Check.refused(40, x, "no triangle", x.check(0, 0, 2, -2, -1, 0, 0, 0, 0), 1);
        Check.refused(40, x, "none at all", x.check(0, 0, 2, -1, 0, 0, 0, 0, 0), 1);
        Check.told(40, x, "one", x.check(0, 2, 0, t0, -1, 9, 9, 9, 9), 0);
        Check.told(40, x, "not to its own side", x.check(0, 1, 0, t0, -1, 9, 9, 9, 9), 1);
        Check.told(40, x, "not its side", x.check(0, 3, 0, t0, -1, 9, 9, 9, 9), 1);
        Check.told(40, x, "two", x.check(0, 2, 3, t0, t1, -1, 0, 0, 0), 0);
        Check.told(40, x, "the shared side is what it has", x.check(0, 1, 2, t0, t1, -1, 0, 0, 0), 2);
        Check.told(40, x, "no side for it", x.check(0, 2, 3, t1, -1, 0, 0, 0, 0), 1);
        Check.told(40, x, "no side for the second", x.check(0, 3, 4, t0, t4, t1, -1, 0, 0), 2);
        Check.told(40, x, "stood ahead", x.check(0, 1, 2, t0, t3, t0, -1, 0, 0), 3);
        Check.told(40, x, "like marks, another triangle", x.check(0, 0, 1, t0, t3, -1, 0, 0, 0), 0);
        Check.told(40, x, "either of two sides", x.check(0, 1, 2, t0, t3, -1, 0, 0, 0), 0);
        Check.told(40, x, "a miss beyond", x.check(0, 3, 4, t0, t1, t2, -1, 0, 0), 3);
        Check.told(40, x, "a miss of -100", x.check(0, 3, 4, t0, t1, t4, -1, 0, 0), 0);
        Check.told(40, x, "the first of two that fail", x.check(0, 3, 4, t1, t2, -1, 0, 0, 0), 1);
        Check.rule(x, "close 101");
        Check.told(40, x, "then it stands", x.check(0, 3, 4, t0, t1, t2, -1, 0, 0), 0);
        Check.rule(x, "least " + (SIXTY - 49));
        Check.told(40, x, "not well", x.check(0, 3, 4, t0, t1, t4, -1, 0, 0), 3);
        Check.told(40, x, "six", x.check(0, 1, 2, t0, t1, t2, t3, t4, t0), 4);
    }

    /** What the base's side may have become behind each triangle: any but the one that alone was carried to it. */
    private static void checkedSides() {
        Check.says(40, "stood ahead, has no side that can be carried to it, or, being the last, doesn't carry one to the two MARKS' "
            + "side.");
        GreatArc x = withBase(4, 10000);
        for (int t = 0; t < 3; t++) {
            triangle(x, of(0, 1, 2), SIXTY, SIXTY, SIXTY);
        }
        triangle(x, of(0, 1, 3), SIXTY, SIXTY, SIXTY);
        triangle(x, of(0, 2, 3), SIXTY, SIXTY, SIXTY);
        int[][] pairs = {{0, 1}, {0, 2}, {1, 2}, {0, 3}, {2, 3}};
        // by row of triangles, to each of the pairs
        int[][] rows = {{0}, {0, 1}, {1, 0}, {0, 1, 2}, {3}, {3, 4}, {0, 4}, {0, 4, 3}, {0, 3}, {4}, {3, 0}};
        int[][] want = {{1, 0, 0, 1, 1}, {0, 0, 0, 2, 2}, {0, 0, 0, 2, 2}, {0, 0, 0, 3, 3}, {1, 1, 1, 0, 1}, {2, 0, 2, 2, 0},
            {2, 2, 2, 0, 0}, {0, 3, 3, 3, 3}, {2, 2, 2, 2, 2}, {1, 1, 1, 1, 1}, {2, 2, 2, 2, 2}};
        for (int i = 0; i < rows.length; i++) {
            int b = rows[i].length > 1 ? rows[i][1] : -1;
            int c = rows[i].length > 2 ? rows[i][2] : -1;
            for (int p = 0; p < pairs.length; p++) {
                String what = java.util.Arrays.toString(rows[i]) + " to " + java.util.Arrays.toString(pairs[p]);
                Check.told(40, x, what, x.check(0, pairs[p][0], pairs[p][1], rows[i][0], b, c, -1, 0, 0), want[i][p]);
            }
        }
    }

    private static void checkedTriangles() {
        Check.says(40, "CHECKED: a told CHAIN (up to 6 TRIANGLES, in order) from a BASE to two MARKS, whatever the lengths: 0 if it "
            + "stands; else 1 and the place (0 ..) of the first TRIANGLE that isn't WELL, has a MISS beyond ALLOWED or a LEAST or "
            + "MOST with which it carries nothing,");
        GreatArc x = withBase(9, 10000);
        for (int t = 0; t < 6; t++) {
            triangle(x, of(t, t + 1, t + 2), SIXTY, SIXTY, SIXTY);
        }
        Check.told(40, x, "six in order", x.check(0, 6, 7, 0, 1, 2, 3, 4, 5), 0);
        Check.told(40, x, "all but the last", x.check(0, 6, 5, 0, 1, 2, 3, 4, -1), 0);
        Check.told(40, x, "the last two the other way about", x.check(0, 6, 7, 0, 1, 2, 3, 5, 4), 5);
        Check.refused(40, x, "the last isn't there", x.check(0, 6, 7, 0, 1, 2, 3, 4, 6), 1);
        Check.told(40, x, "one behind the -1 isn't there", x.check(0, 1, 2, 0, -1, 6, -2, 99, 5), 0);
        int[] none = {6, -2, Integer.MIN_VALUE, Integer.MAX_VALUE};
        for (int n : none) {
            Check.refused(40, x, "triangle " + n, x.check(0, 1, 2, n, -1, 0, 0, 0, 0), 1);
            Check.refused(40, x, "base " + n, x.check(n, 1, 2, 0, -1, 0, 0, 0, 0), 1);
            Check.refused(40, x, "mark", x.check(0, n == 6 ? 9 : n, 2, 0, -1, 0, 0, 0, 0), 1);
            Check.refused(40, x, "mark", x.check(0, 2, n == 6 ? 9 : n, 0, -1, 0, 0, 0, 0), 1);
        }
        // in the way, each behind sound ones: a mean too small, a miss of 101 and -101, a least and a most
        int[][] told = {{36000}, {SIXTY + 101}, {SIXTY - 101}, {SIXTY - 36000, SIXTY + 36000}};
        int[] place = {4, 4, 4, 0};
        for (int i = 0; i < told.length; i++) {
            GreatArc y = withBase(6, 10000);
            for (int t = 0; t < 4; t++) {
                triangle(y, of(t, t + 1, t + 2), SIXTY, SIXTY, SIXTY);
            }
            y.strike(11, 0, true);
            for (int value : told[i]) {
                Check.read(y, 11, value);
            }
            Check.told(40, y, "told so " + i, y.check(0, 4, 5, 0, 1, 2, 3, -1, 0), place[i]);
            Check.told(40, y, "without it " + i, y.check(0, 4, 3, 0, 1, 2, -1, 3, 0), 0);
            Check.rule(y, "close 9999999");
            Check.told(40, y, "any miss is allowed " + i, y.check(0, 4, 5, 0, 1, 2, 3, -1, 0), 0);
            Check.rule(y, "least 36001");
            Check.told(40, y, "36,000 isn't well " + i, y.check(0, 4, 5, 0, 1, 2, 3, -1, 0), i == 0 ? 4 : 0);
            Check.rule(y, "least 0");
            Check.read(y, 11, 35999);
            Check.told(40, y, "a least of 35,999 " + i, y.check(0, 4, 5, 0, 1, 2, 3, -1, 0), 4);
            y.strike(y.count(2) - 1, 0, true);
            Check.read(y, 11, 6444000);
            Check.told(40, y, "a most of 6,444,000 " + i, y.check(0, 4, 5, 0, 1, 2, 3, -1, 0), 0);
            Check.read(y, 11, 6444001);
            Check.told(40, y, "a most of 6,444,001 " + i, y.check(0, 4, 5, 0, 1, 2, 3, -1, 0), 4);
        }
    }
}
