/** Promises 26 to 34 by their sentences: triangles, rounds, and the least change that meets conditions. */
public final class NetTest {
    private static final int NO_INT = Integer.MIN_VALUE;
    private static final int FULL = 12960000;
    private static final int HALF = 6480000;
    private static final int MOST = 12959999;

    public static void main(String[] args) {
        triangles();
        rightTriangles();
        rounds();
        rightRounds();
        misses();
        manyMisses();
        wells();
        wide();
        adjustRefused();
        hanging();
        leastChange();
        changes();
        parts();
        costs();
        latest();
        Check.end();
    }

    /** Five marks with an angle each way between others at marks 0, 1 and 2: 0 .. 2, and 3 .. 5 back. */
    private static GreatArc three() {
        GreatArc x = Check.room(5);
        x.angle(0, 1, 2);
        x.angle(1, 2, 0);
        x.angle(2, 0, 1);
        x.angle(0, 2, 1);
        x.angle(1, 0, 2);
        x.angle(2, 1, 0);
        return x;
    }

    private static void read(GreatArc x, int... means) {
        for (int a = 0; a < means.length; a++) {
            if (means[a] >= 0) {
                Check.read(x, a, means[a]);
            }
        }
    }

    private static void triangles() {
        Check.says(26, "TRIANGLES 30, ROUNDS 12,");
        GreatArc x = three();
        for (int t = 0; t < 30; t++) {
            Check.told(x, "triangle", x.triangle(t % 2 * 3, 1, 2, t), t);
        }
        Check.refused(x, "a 31st", x.triangle(0, 1, 2, 0), 3);
        Check.due("TRIANGLES", x.count(5), 30);
        Check.due("it isn't there", x.well(30), -1);
        for (int r = 0; r < 12; r++) {
            Check.told(x, "round", x.round(r % 3, r % 3 + 3, -1, 0, 0, 0), r);
        }
        Check.refused(x, "a 13th", x.round(0, 3, -1, 0, 0, 0), 3);
        Check.due("ROUNDS", x.count(6), 12);
        Check.says(26, "A TRIANGLE: its number. NONE: 1; 2; 5; 3.");
        GreatArc y = three();
        int[][] bad = {{6, 1, 2, 0, 1}, {0, 6, 2, 0, 1}, {0, 1, 6, 0, 1}, {-1, 1, 2, 0, 1}, {0, -1, 2, 0, 1}, {0, 1, -1, 0, 1},
            {0, 1, 2, -1, 2}, {0, 1, 2, 10000, 2}, {0, 1, 2, NO_INT, 2}, {0, 1, 2, Integer.MAX_VALUE, 2}, {0, 0, 1, 0, 5},
            {0, 1, 1, 0, 5}, {0, 1, 0, 0, 5}, {0, 3, 1, 0, 5}, {1, 4, 2, 0, 5}, {2, 1, 5, 0, 5}};
        for (int[] b : bad) {
            Check.refused(y, "triangle " + b[0] + " " + b[1] + " " + b[2] + " and " + b[3], y.triangle(b[0], b[1], b[2], b[3]), b[4]);
            Check.due("TRIANGLES", y.count(5), 0);
        }
        Check.told(y, "excess 9,999", y.triangle(0, 1, 2, 9999), 0);
        Check.told(y, "excess 0", y.triangle(0, 1, 2, 0), 1);
    }

    private static void rightTriangles() {
        Check.says(26, "VI. A TRIANGLE of three ANGLES at three MARKS, each from one of the others to the other, with an EXCESS "
            + "(0 .. 9,999).");
        GreatArc x = three();
        int told = 0;
        for (int a = 0; a <= 3; a += 3) {
            for (int b = 1; b <= 4; b += 3) {
                for (int c = 2; c <= 5; c += 3) {
                    Check.told(x, "either way about", x.triangle(a, b, c, 0), told++);
                }
            }
        }
        int[][] orders = {{0, 2, 1}, {1, 0, 2}, {1, 2, 0}, {2, 0, 1}, {2, 1, 0}};
        for (int[] o : orders) {
            Check.told(x, "in another order", x.triangle(o[0], o[1], o[2], 0), told++);
        }
        // in the place of each mark's angle one that has one right end, or none, or stands at mark 3
        int[][] odd = {{0, 1, 3}, {0, 3, 2}, {0, 3, 1}, {0, 2, 3}, {0, 3, 4}, {3, 0, 1}, {3, 1, 2}, {3, 0, 2}};
        int[][] turns = {{0, 1, 2}, {1, 2, 0}, {2, 0, 1}};
        for (int[] t : turns) {
            for (int[] o : odd) {
                int[] m = {o[0], o[1], o[2]};
                for (int i = 0; i < 3; i++) {
                    m[i] = m[i] < 3 ? t[m[i]] : m[i];
                }
                int a = x.angle(m[0], m[1], m[2]);
                String what = "at " + m[0] + " from " + m[1] + " to " + m[2];
                Check.refused(x, what + " ahead", x.triangle(a, t[1], t[2], 0), 5);
                Check.refused(x, what + " between", x.triangle(t[2], a, t[1], 0), 5);
                Check.refused(x, what + " behind", x.triangle(t[1], t[2], a, 0), 5);
            }
        }
        Check.due("TRIANGLES", x.count(5), told);
    }

    private static void rounds() {
        Check.says(27, "A ROUND of ANGLES (the first -1 ends them): its number. NONE: 1; 5 (fewer than 2, too); 3.");
        GreatArc x = three();
        Check.refused(x, "none", x.round(-1, 0, 3, 0, 3, 0), 5);
        Check.refused(x, "one", x.round(0, -1, 3, 0, 3, 0), 5);
        Check.refused(x, "one that isn't there", x.round(6, -1, 0, 0, 0, 0), 1);
        int[] none = {6, -2, NO_INT, Integer.MAX_VALUE};
        for (int n : none) {
            Check.refused(x, "the first is " + n, x.round(n, 3, -1, 0, 0, 0), 1);
            Check.refused(x, "the second is " + n, x.round(0, n, -1, 0, 0, 0), 1);
            Check.refused(x, "the last is " + n, x.round(0, 3, 0, 3, 0, n), 1);
            Check.due("ROUNDS", x.count(6), 0);
        }
        Check.told(x, "what stands behind the -1", x.round(0, 3, -1, 99, -2, 1), 0);
        Check.told(x, "a second -1", x.round(3, 0, -1, -1, -1, -1), 1);
        Check.told(x, "the same once more", x.round(0, 3, -1, 0, 0, 0), 2);
        Check.due("without means", x.miss(0, true), NO_INT);
        read(x, 5, -1, -1, 7);
        for (int r = 0; r < 3; r++) {
            Check.due("of both angles", x.miss(r, true), 12 - FULL);
        }
    }

    private static void rightRounds() {
        Check.says(27, "A ROUND: 2 to 6 unlike ANGLES at one MARK, each from where the one ahead went to, the first from where the "
            + "last went to:");
        GreatArc x = Check.room(8);
        // at mark 0: from i + 1 to i + 2, the sixth back to 1
        for (int i = 0; i < 6; i++) {
            x.angle(0, i + 1, i < 5 ? i + 2 : 1);
        }
        for (int i = 1; i < 5; i++) {
            x.angle(0, i + 1, 1);
        }
        Check.told(x, "two", x.round(0, 6, -1, 0, 0, 0), 0);
        Check.told(x, "three", x.round(0, 1, 7, -1, 0, 0), 1);
        Check.told(x, "four", x.round(0, 1, 2, 8, -1, 0), 2);
        Check.told(x, "five", x.round(0, 1, 2, 3, 9, -1), 3);
        Check.told(x, "six", x.round(0, 1, 2, 3, 4, 5), 4);
        Check.told(x, "six, begun elsewhere", x.round(4, 5, 0, 1, 2, 3), 5);
        Check.refused(x, "the last doesn't go back", x.round(0, 1, 2, -1, 0, 0), 5);
        Check.refused(x, "all but the last", x.round(0, 1, 2, 3, 4, -1), 5);
        Check.refused(x, "one left out", x.round(0, 2, 8, -1, 0, 0), 5);
        Check.refused(x, "backwards", x.round(1, 0, 7, -1, 0, 0), 5);
        Check.refused(x, "one twice", x.round(0, 0, -1, 0, 0, 0), 5);
        Check.refused(x, "two of them twice", x.round(0, 6, 0, 6, -1, 0), 5);
        x.angle(0, 1, 2);
        Check.refused(x, "from another one than the one ahead went to", x.round(0, 6, 10, 7, -1, 0), 5);
        x.angle(0, 2, 1);
        Check.told(x, "twice round by unlike angles", x.round(0, 6, 10, 11, -1, 0), 6);
        x.angle(7, 2, 1);
        x.angle(7, 1, 2);
        Check.refused(x, "the second at another mark", x.round(0, 12, -1, 0, 0, 0), 5);
        Check.refused(x, "the first at another mark", x.round(13, 6, -1, 0, 0, 0), 5);
        Check.told(x, "both at it", x.round(13, 12, -1, 0, 0, 0), 7);
        Check.due("ROUNDS", x.count(6), 8);
    }

    private static void misses() {
        Check.says(28, "MISS: the three MEANS less HALF and EXCESS.");
        GreatArc x = three();
        x.triangle(0, 1, 2, 0);
        x.triangle(0, 1, 2, 9999);
        read(x, 0, 0, 0);
        Check.due("0 and no excess", x.miss(0, false), -HALF);
        Check.due("0 and the most excess", x.miss(1, false), -HALF - 9999);
        GreatArc y = three();
        y.triangle(0, 1, 2, 0);
        y.triangle(0, 1, 2, 1);
        read(y, MOST, MOST, MOST);
        Check.due("the most", y.miss(0, false), 3 * MOST - HALF);
        Check.due("less an excess of 1", y.miss(1, false), 3 * MOST - HALF - 1);
        Check.says(28, "MISS: the MEANS together less FULL.");
        x.round(0, 3, -1, 0, 0, 0);
        read(x, -1, -1, -1, 0);
        Check.due("0 and 0", x.miss(0, true), -FULL);
        GreatArc z = Check.room(7);
        for (int i = 0; i < 6; i++) {
            z.angle(0, i + 1, i < 5 ? i + 2 : 1);
        }
        z.round(0, 1, 2, 3, 4, 5);
        read(z, MOST, MOST, MOST, MOST, MOST, MOST);
        Check.due("the most of six", z.miss(0, true), 6 * MOST - FULL);
        Check.says(28, "MISS of a TRIANGLE (or ROUND); -2^31 without all MEANS, for no such one.");
        for (int missing = 0; missing < 3; missing++) {
            GreatArc w = three();
            w.triangle(0, 1, 2, 0);
            read(w, 0, 5, 6);
            int left = w.led(missing, 0);
            w.strike(left, 0, true);
            Check.due("without the mean of " + missing, w.miss(0, false), NO_INT);
            w.strike(left, 0, false);
            Check.due("with all", w.miss(0, false), 11 - HALF);
        }
        z.strike(5, 0, true);
        Check.due("a round without all means", z.miss(0, true), NO_INT);
        int[] none = {-1, 2, NO_INT, Integer.MAX_VALUE};
        for (int n : none) {
            Check.due("no triangle " + n, y.miss(n, false), NO_INT);
            Check.due("no round " + n, y.miss(n, true), NO_INT);
        }
        Check.due("no round 0", y.miss(0, true), NO_INT);
        Check.due("no triangle 0", z.miss(0, false), NO_INT);
    }

    /** Angles of its own for each triangle and round, so that one is not told by another's. */
    private static GreatArc many() {
        GreatArc x = Check.room(5);
        for (int t = 0; t < 4; t++) {
            for (int i = 0; i < 3; i++) {
                x.angle(i, (i + 1) % 3, (i + 2) % 3);
                Check.read(x, 3 * t + i, 2160000 + 10 * t * (i + 1));
            }
            x.triangle(3 * t, 3 * t + 1, 3 * t + 2, 0);
        }
        for (int r = 0; r < 3; r++) {
            x.angle(3, 0, 1);
            x.angle(3, 1, 0);
            Check.read(x, 12 + 2 * r, HALF + 100 * r);
            Check.read(x, 13 + 2 * r, HALF + 1 + r);
            x.round(12 + 2 * r, 13 + 2 * r, -1, 0, 0, 0);
        }
        return x;
    }

    private static void manyMisses() {
        Check.says(28, "MISS of a TRIANGLE (or ROUND);");
        GreatArc x = many();
        for (int t = 0; t < 4; t++) {
            Check.due("triangle " + t, x.miss(t, false), 60 * t);
        }
        for (int r = 0; r < 3; r++) {
            Check.due("round " + r, x.miss(r, true), 101 * r + 1);
        }
    }

    private static void wells() {
        Check.says(29, "WELL: each MEAN is no less than LEAST ANGLE.");
        for (int low = 0; low < 3; low++) {
            GreatArc x = three();
            x.triangle(0, 1, 2, 0);
            read(x, low == 0 ? 999 : 1000, low == 1 ? 999 : 1000, low == 2 ? 999 : 1000);
            Check.rule(x, "least 1000", 0, 0);
            Check.rule(x, "least 999", 1, 1);
            Check.due("999 of angle " + low, x.well(0), 0);
            x.pass(1);
            Check.due("no less than 999", x.well(0), 1);
        }
        GreatArc y = many();
        Check.rule(y, "least 2160000");
        Check.due("the least of it is no less", y.well(0), 1);
        Check.rule(y, "least 2160010");
        int[] want = {0, 1, 1, 1};
        for (int t = 0; t < 4; t++) {
            Check.due("triangle " + t, y.well(t), want[t]);
        }
        // a triangle is not asked of the angles of the next one
        GreatArc z = three();
        z.triangle(1, 2, 0, 0);
        z.triangle(3, 4, 5, 0);
        read(z, 500, 500, 500, 10, 20, 30);
        Check.rule(z, "least 20");
        Check.due("the first", z.well(0), 1);
        Check.due("the second", z.well(1), 0);
        Check.says(29, "Whether a TRIANGLE is WELL: 1, 0 (also without all MEANS); NONE.");
        GreatArc w = three();
        w.triangle(0, 1, 2, 0);
        Check.due("without means", w.well(0), 0);
        read(w, 0, 0);
        Check.due("without all", w.well(0), 0);
        read(w, -1, -1, 0);
        Check.due("means of 0 and a least of 0", w.well(0), 1);
        w.strike(1, 0, true);
        Check.due("without all again", w.well(0), 0);
        Check.rule(w, "least 0-5");
        Check.due("whatever the least", w.well(0), 0);
        int[] none = {-1, 1, NO_INT, Integer.MAX_VALUE};
        for (int n : none) {
            Check.due("no triangle " + n, w.well(n), -1);
        }
    }

    private static void wide() {
        Check.says(30, "How many TRIANGLES and ROUNDS have a MISS beyond ALLOWED.");
        GreatArc x = three();
        Check.due("none at all", x.wide(), 0);
        x.triangle(0, 1, 2, 0);
        x.round(0, 3, -1, 0, 0, 0);
        Check.due("without means", x.wide(), 0);
        read(x, 2160000, 2160000, 2160100);
        Check.due("100 is not beyond 100", x.wide(), 0);
        Check.rule(x, "close 99");
        Check.due("100 is beyond 99", x.wide(), 1);
        read(x, -1, -1, -1, 10800000 - 100);
        Check.due("-100 is beyond 99, too", x.wide(), 2);
        Check.rule(x, "close 100");
        Check.due("neither is beyond 100", x.wide(), 0);
        Check.rule(x, "close 0");
        Check.due("both are beyond 0", x.wide(), 2);
        // asked with nothing asked between the reading and it
        Check.read(x, 2, 2159900);
        Check.due("a mean of 2,160,000 now", x.wide(), 1);
        Check.read(x, 3, 10800100);
        Check.due("none now", x.wide(), 0);
        x.strike(3, 0, true);
        Check.due("the round's other mean", x.wide(), 1);
        GreatArc y = many();
        Check.due("180 and 102 and 203", y.wide(), 4);
        Check.rule(y, "close 120");
        Check.due("180 and 203", y.wide(), 2);
        Check.rule(y, "close 0");
        Check.due("all but the first", y.wide(), 6);
    }

    private static void adjustRefused() {
        Check.says(31, "ADJUST by TRIANGLES and ROUNDS as bits: how many ANGLES are in it. NONE: 1 (none, such that there aren't); "
            + "7; 5; 6.");
        GreatArc x = many();
        Check.refused(x, "none", x.adjust(0, 0), 1);
        int[][] none = {{16, 0}, {0, 8}, {1, 8}, {16, 1}, {NO_INT, 0}, {0, NO_INT}, {NO_INT, 1}, {-1, 0}, {0, -1},
            {Integer.MAX_VALUE, 0}, {0, Integer.MAX_VALUE}, {1 << 30, 0}};
        for (int[] n : none) {
            Check.refused(x, "adjust " + n[0] + " and " + n[1], x.adjust(n[0], n[1]), 1);
        }
        Check.due("nothing is adjusted", x.change(0), NO_INT);
        Check.told(x, "the first triangle", x.adjust(1, 0), 3);
        Check.told(x, "the last triangle", x.adjust(8, 0), 3);
        Check.told(x, "the last round", x.adjust(0, 4), 2);
        Check.told(x, "six of both", x.adjust(15, 3), 16);
        Check.told(x, "six others of both", x.adjust(7, 7), 15);
        Check.refused(x, "seven", x.adjust(15, 7), 7);
        Check.told(x, "two", x.adjust(9, 0), 6);
        x.strike(9, 0, true);
        Check.refused(x, "seven, and one without all means", x.adjust(15, 7), 7);
        Check.refused(x, "one without all means", x.adjust(9, 0), 5);
        Check.refused(x, "alone", x.adjust(8, 0), 5);
        Check.told(x, "the others", x.adjust(7, 7), 15);
        x.strike(17, 0, true);
        Check.refused(x, "a round without all means", x.adjust(1, 4), 5);
        GreatArc y = three();
        y.triangle(0, 1, 2, 0);
        y.triangle(0, 1, 2, 5);
        y.round(0, 3, -1, 0, 0, 0);
        y.round(3, 0, -1, 0, 0, 0);
        read(y, 1, 2, 3);
        Check.refused(y, "without means ahead of hanging", y.adjust(3, 1), 5);
        read(y, -1, -1, -1, 4);
        Check.refused(y, "hanging", y.adjust(3, 1), 6);
        Check.told(y, "an angle in two of them counts once", y.adjust(1, 1), 4);
        Check.says(31, "ADJUST, by up to 6 TRIANGLES and ROUNDS (CONDITIONS):");
        GreatArc z = Check.room(3);
        for (int r = 0; r < 7; r++) {
            z.angle(0, 1, 2);
            z.angle(0, 2, 1);
            Check.read(z, 2 * r, HALF);
            Check.read(z, 2 * r + 1, HALF + r);
            z.round(2 * r, 2 * r + 1, -1, 0, 0, 0);
        }
        Check.told(z, "six", z.adjust(0, 126), 12);
        Check.due("half of 6", z.change(13), -3000);
        Check.refused(z, "seven", z.adjust(0, 127), 7);
        Check.due("six still", z.change(13), -3000);
    }

    private static void hanging() {
        Check.says(31, "If CONDITIONS hang on one another (none can be told from others) it is refused.");
        GreatArc x = Check.room(4);
        // two pairs at mark 0, and the round of both pairs
        x.angle(0, 1, 2);
        x.angle(0, 2, 1);
        x.angle(0, 1, 3);
        x.angle(0, 3, 1);
        read(x, HALF, HALF, HALF, HALF);
        x.round(0, 1, -1, 0, 0, 0);
        x.round(2, 3, -1, 0, 0, 0);
        x.round(0, 1, 2, 3, -1, 0);
        x.round(1, 0, -1, 0, 0, 0);
        Check.told(x, "the pairs", x.adjust(0, 3), 4);
        Check.told(x, "a pair and all", x.adjust(0, 5), 4);
        Check.told(x, "the other pair and all", x.adjust(0, 6), 4);
        Check.refused(x, "all is the pairs together", x.adjust(0, 7), 6);
        Check.refused(x, "a pair told twice", x.adjust(0, 9), 6);
        Check.refused(x, "a pair told twice, and others", x.adjust(0, 13), 6);
        GreatArc y = three();
        y.triangle(0, 1, 2, 0);
        y.triangle(2, 1, 0, 7);
        y.triangle(3, 1, 2, 0);
        read(y, 2160000, 2160000, 2160000, 2160000);
        Check.refused(y, "the same angles, another excess", y.adjust(3, 0), 6);
        Check.told(y, "another angle", y.adjust(5, 0), 4);
    }

    private static void leastChange() {
        Check.says(32, "changes of MEANS, of the ANGLES in them, by which all MISSES are 0, such that the sum of WEIGHT times change "
            + "squared is least.");
        // two triangles that share an angle, misses 6 and 0: by 3 1, 1 3 the factors are -9/4 and 3/4
        GreatArc x = three();
        x.triangle(0, 1, 2, 0);
        x.triangle(0, 4, 5, 0);
        read(x, 2160000, 2160000, 2160006, -1, 2160000, 2160000);
        Check.told(x, "both", x.adjust(3, 0), 5);
        int[] thousandths = {-1500, -2250, -2250, NO_INT, 750, 750};
        for (int a = 0; a < 6; a++) {
            Check.due("change of " + a, x.change(a), thousandths[a]);
        }
        Check.due("9/4, 2 * 81/16, 2 * 9/16", x.cost(), 13500);
        // weights 1, 2, 6 share 60 as 6 : 3 : 1
        GreatArc y = three();
        y.triangle(0, 1, 2, 0);
        read(y, 2160000, 2160000, 2159940);
        Check.rule(y, "weight 6 if at=2");
        Check.rule(y, "weight 9 if at<3", 1, 9);
        Check.rule(y, "weight at+1");
        Check.told(y, "a triangle", y.adjust(1, 0), 3);
        int[] shares = {36000, 18000, 6000};
        for (int a = 0; a < 3; a++) {
            Check.due("share of " + a, y.change(a), shares[a]);
        }
        Check.due("1,296 and 2 * 324 and 6 * 36", y.cost(), 2160000);
        y.pass(1);
        y.force(0, 0, 0);
        y.adjust(1, 0);
        Check.due("weights of 9 today", y.change(0), 20000);
        Check.due("9 * 3 * 400", y.cost(), 10800000);
    }

    private static void changes() {
        Check.says(32, "CHANGE of an ANGLE: exactly a fraction; told in thousandths of a TICK, downwards,");
        int[] misses = {1, 2, 3, -1, -2, -3, 0};
        for (int miss : misses) {
            GreatArc x = three();
            x.triangle(0, 1, 2, 0);
            read(x, 2160000, 2160000, 2160000 + miss);
            x.adjust(1, 0);
            Check.due("a third of " + -miss, x.change(1), Math.floorDiv(-1000 * miss, 3));
        }
        Check.says(32, "CHANGE of an ANGLE by the latest adjust() that told a number, in thousandths; -2^31 if it isn't in it "
            + "(or it is beyond an int).");
        int[][] far = {{-6442450, 2147483333}, {-6442451, NO_INT}, {6442450, -2147483334}, {6442451, NO_INT}};
        for (int[] f : far) {
            GreatArc x = round(1, f[0], 1, 1, 1);
            Check.told(x, "a round of three", x.adjust(0, 1), 3);
            Check.due("a third of " + -f[0], x.change(2), f[1]);
        }
        // weights 4, 9, 9 share a miss as 9 : 4 : 4
        GreatArc y = round(1, -4056358, 4, 9, 9);
        y.adjust(0, 1);
        Check.due("36,507,222 by 17", y.change(0), Integer.MAX_VALUE);
        Check.due("16,225,432 by 17", y.change(1), 954437176);
        GreatArc z = round(1, -4056359, 4, 9, 9);
        z.adjust(0, 1);
        Check.due("36,507,231 by 17", z.change(0), NO_INT);
        Check.due("its parts are told", z.part(0, false), 36507231);
        int[] none = {3, 4, -1, 80, NO_INT, Integer.MAX_VALUE};
        for (int n : none) {
            Check.due("no change of " + n, z.change(n), NO_INT);
        }
        Check.due("ahead of any", three().change(0), NO_INT);
    }

    /**
     * So many rounds, each at a mark of its own, of angles that together have that miss, each angle as
     * often read as its weight.
     */
    private static GreatArc round(int rounds, int miss, int... weights) {
        GreatArc x = Check.room(8);
        Check.rule(x, "weight count");
        int n = weights.length;
        int[] row = {-1, -1, -1, -1, -1, -1};
        for (int r = 0; r < rounds; r++) {
            for (int i = 0; i < n; i++) {
                int from = 1 + i;
                int to = 1 + (i + 1) % n;
                row[i] = x.angle(r, from == r ? 0 : from, to == r ? 0 : to);
                int mean = (FULL + miss) / n + (i < (FULL + miss) % n ? 1 : 0);
                for (int k = 0; k < weights[i]; k++) {
                    Check.read(x, row[i], mean);
                }
            }
            x.round(row[0], row[1], row[2], row[3], row[4], row[5]);
        }
        return x;
    }

    private static void part(GreatArc x, int angle, int up, int down) {
        Check.due("numerator of " + angle, x.part(angle, false), up);
        Check.due("denominator of " + angle, x.part(angle, true), down);
    }

    private static void parts() {
        Check.says(33, "and as its parts (in lowest terms, if these are below 10^9).");
        GreatArc x = three();
        x.triangle(0, 1, 2, 0);
        read(x, 2160000, 2160000, 2160000);
        x.adjust(1, 0);
        part(x, 0, 0, 1);
        int[][] lowest = {{3, -1, 1}, {6, -2, 1}, {4, -4, 3}, {-4, 4, 3}, {-9, 3, 1}};
        for (int[] l : lowest) {
            GreatArc y = three();
            y.triangle(0, 1, 2, 0);
            read(y, 2160000, 2160000 + l[0], 2160000);
            y.adjust(1, 0);
            part(y, 2, l[1], l[2]);
        }
        Check.says(33, "Its numerator, or denominator; -2^31 if it isn't in it, or one of them is 10^9 and more without its sign.");
        // rounds A B C and A D of weights 1, 1, 9, 4 and misses 22,221,423 and -999: B is 36 * -999 - 45 * 22,221,423 by 59
        int[] edges = {22221423, 22221424, -12959001};
        int[] ups = {-999999999, NO_INT, 583119081};
        for (int i = 0; i < edges.length; i++) {
            GreatArc y = shared(edges[i]);
            Check.told(y, "two rounds", y.adjust(0, 3), 4);
            part(y, 1, ups[i], ups[i] == NO_INT ? NO_INT : 59);
        }
        part(x, 3, NO_INT, NO_INT);
        part(x, -1, NO_INT, NO_INT);
        part(x, 80, NO_INT, NO_INT);
        part(x, NO_INT, NO_INT, NO_INT);
        part(x, Integer.MAX_VALUE, NO_INT, NO_INT);
        part(three(), 0, NO_INT, NO_INT);
    }

    private static GreatArc shared(int miss) {
        GreatArc x = Check.room(4);
        x.angle(0, 1, 2);
        x.angle(0, 2, 3);
        x.angle(0, 3, 1);
        x.angle(0, 2, 1);
        int a = miss < 0 ? 999 : 12000000;
        int[] means = {a, miss < 0 ? 0 : 12000000, miss < 0 ? FULL + miss - a : FULL + miss - 24000000, FULL - 999 - a};
        int[] weights = {1, 1, 9, 4};
        for (int i = 0; i < 4; i++) {
            for (int k = 0; k < weights[i]; k++) {
                Check.read(x, i, means[i]);
            }
        }
        x.round(0, 1, 2, -1, 0, 0);
        x.round(0, 3, -1, 0, 0, 0);
        Check.rule(x, "weight count");
        return x;
    }

    private static void costs() {
        Check.says(34, "COST: that least sum, in thousandths, downwards.");
        int[] misses = {0, 1, -1, 2, 5, -7};
        for (int miss : misses) {
            GreatArc x = three();
            x.triangle(0, 1, 2, 0);
            read(x, 2160000, 2160000, 2160000 + miss);
            x.adjust(1, 0);
            Check.due("a third of the square of " + miss, x.cost(), 1000 * miss * miss / 3);
        }
        Check.says(34, "COST by it; -2^63 ahead of any, or if it is beyond a long.");
        Check.due("ahead of any", three().cost(), Long.MIN_VALUE);
        GreatArc refused = three();
        refused.adjust(1, 0);
        Check.due("ahead of any that told a number", refused.cost(), Long.MIN_VALUE);
        // rounds of six of weight 9 cost 1,500 thousandths times their misses squared: found by search, the
        // sums of two squares next to 2^63 by 1,500
        Check.due("just within a long", twoRounds(45227523, 64057676), 9223372036854757500L);
        Check.due("just beyond a long", twoRounds(49377897, 60915827), Long.MIN_VALUE);
        Check.due("far beyond a long", twoRounds(64799994, 64799994), Long.MIN_VALUE);
        Check.due("half of it", twoRounds(64799994, 0), 1500L * 64799994 * 64799994);
    }

    private static long twoRounds(int one, int other) {
        GreatArc x = Check.room(8);
        int[] misses = {one, other};
        for (int r = 0; r < 2; r++) {
            for (int i = 0; i < 6; i++) {
                x.angle(r, i + 2, (i + 1) % 6 + 2);
                Check.read(x, 6 * r + i, (FULL + misses[r]) / 6 + (i < (FULL + misses[r]) % 6 ? 1 : 0));
            }
            x.round(6 * r, 6 * r + 1, 6 * r + 2, 6 * r + 3, 6 * r + 4, 6 * r + 5);
        }
        Check.rule(x, "weight 9");
        Check.told(x, "two rounds", x.adjust(0, 3), 12);
        return x.cost();
    }

    private static void latest() {
        Check.says(32, "by the latest adjust() that told a number,");
        GreatArc x = many();
        x.adjust(2, 0);
        Check.due("a third of 60", x.change(3), -20000);
        int[][] refused = {{0, 0}, {16, 0}, {15, 7}};
        for (int[] r : refused) {
            x.adjust(r[0], r[1]);
            Check.due("as ahead of the refused one", x.change(3), -20000);
            part(x, 4, -20, 1);
            Check.due("as ahead of the refused one", x.cost(), 1200000);
        }
        x.strike(3, 0, true);
        x.adjust(2, 0);
        Check.due("refused without a mean", x.change(3), -20000);
        Check.rule(x, "weight 3");
        Check.due("as weighed then", x.cost(), 1200000);
        x.adjust(4, 0);
        Check.due("not in it now", x.change(3), NO_INT);
        Check.due("in it", x.change(6), -40000);
        Check.due("3 * 3 * 1,600", x.cost(), 14400000);
    }
}
