/** Promises 46 to 55 by their sentences: stars and the north carried on, levels, masses, the figure. */
public final class SkyTest {
    private static final int FULL = 12960000;
    private static final int HALF = 6480000;
    private static final int NO_INT = Integer.MIN_VALUE;

    public static void main(String[] args) {
        bounds();
        stars();
        ownStars();
        carried();
        notCarried();
        leastMark();
        lesserAngle();
        ranked();
        eightySteps();
        noNorth();
        levels();
        between();
        doubt();
        masses();
        pull();
        arcs();
        figure();
        Check.end();
    }

    private static void bounds() {
        Check.says(46, "STARS 20, LEVELS 60, MASSES 12, ARCS 30,");
        GreatArc x = Check.room(3);
        for (int i = 0; i < 20; i++) {
            Check.told(x, "a star", x.star(0, 1, 100 * i, 0), i);
        }
        Check.refused(x, "a 21st", x.star(0, 1, 100, 0), 3);
        Check.due("STARS", x.count(8), 20);
        Check.due("the mean of the 20", x.north(0, 1), 950);
        for (int i = 0; i < 60; i++) {
            Check.told(x, "a level", x.level(0, 1, 10 * i, 0), i);
        }
        Check.refused(x, "a 61st", x.level(0, 1, 999999, 0), 3);
        Check.due("LEVELS", x.count(9), 60);
        Check.due("the mean of the 60", x.between(0, 1), 295);
        for (int i = 0; i < 12; i++) {
            Check.told(x, "a mass", x.mass(1, 10), i);
        }
        Check.refused(x, "a 13th", x.mass(1, 10), 3);
        Check.due("the 12 together", x.pull(0, false), 120);
        for (int i = 0; i < 30; i++) {
            Check.told(x, "an arc", x.arc(i, 1000 + 7 * i), i);
        }
        Check.refused(x, "a 31st", x.arc(90, 1), 3);
        Check.due("7 a degree", x.figure(false), 7000);
        Check.due("1,000 at first", x.figure(true), 1000000);
        Check.says(46, "A TICK is a tenth of a second: a FULL round has 12,960,000, a HALF 6,480,000, a degree 36,000.");
        GreatArc y = Check.room(3);
        Check.told(y, "a tick less than FULL", y.star(0, 1, FULL - 1, 0), 0);
        Check.refused(y, "FULL", y.star(0, 1, FULL, 0), 2);
        Check.due("HALF less a tick", y.north(1, 0), HALF - 1);
        y.star(1, 2, HALF, 0);
        Check.due("HALF and HALF", y.north(2, 1), 0);
        Check.due("half the radius at 30 degrees", y.sine(30 * 36000), 500000);
    }

    private static void stars() {
        Check.says(46, "IX. A STAR at a MARK: which way another MARK is from north (0 .. 12,959,999, by an HOUR, TODAY).");
        GreatArc x = Check.room(3);
        Check.told(x, "0 at the first hour", x.star(0, 1, 0, 0), 0);
        Check.told(x, "12,959,999 at the last", x.star(0, 2, FULL - 1, 23), 1);
        Check.due("as told", x.north(0, 1), 0);
        Check.due("as told", x.north(0, 2), FULL - 1);
        x.pass(5);
        Check.told(x, "another day", x.star(0, 2, FULL - 3, 23), 2);
        Check.due("of all days", x.north(0, 2), FULL - 2);
        Check.says(46, "A STAR: its number. NONE: 1; 2; 3.");
        int[][] bad = {{3, 0, 0, 0, 1}, {0, 3, 0, 0, 1}, {-1, 0, 0, 0, 1}, {0, -1, 0, 0, 1}, {1, 1, 0, 0, 1}, {0, 1, -1, 0, 2},
            {0, 1, FULL, 0, 2}, {0, 1, 0, -1, 2}, {0, 1, 0, 24, 2}, {0, 1, NO_INT, 0, 2}, {0, 1, 0, Integer.MAX_VALUE, 2},
            {NO_INT, 1, 0, 0, 1}, {0, Integer.MAX_VALUE, 0, 0, 1}};
        for (int[] b : bad) {
            Check.refused(x, "star " + b[0] + " " + b[1] + " " + b[2] + " " + b[3], x.star(b[0], b[1], b[2], b[3]), b[4]);
            Check.due("STARS", x.count(8), 3);
        }
    }

    private static void north(GreatArc x, int at, int to, int north, int steps) {
        // steps asked first, so that neither leans on the other
        Check.due("steps of " + at + " to " + to, x.steps(at, to), steps);
        Check.due("north of " + at + " to " + to, x.north(at, to), north < 0 ? north : north % FULL);
    }

    private static void ownStars() {
        Check.says(47, "NORTH of a MARK's sight to another one (0 .. 12,959,999, rounds left out): of its own STARS the mean, "
            + "downwards; else, if there are STARS at the other end for the sight back, that one's and HALF;");
        GreatArc x = Check.room(4);
        x.star(0, 1, 10, 0);
        north(x, 0, 1, 10, 0);
        north(x, 1, 0, 10 + HALF, 0);
        x.star(0, 1, 13, 0);
        north(x, 0, 1, 11, 0);
        north(x, 1, 0, 11 + HALF, 0);
        x.star(0, 1, 0, 0);
        north(x, 0, 1, 7, 0);
        x.star(1, 0, 500, 0);
        north(x, 1, 0, 500, 0);
        north(x, 0, 1, 7, 0);
        x.star(2, 3, FULL - 1, 0);
        x.star(2, 3, FULL - 2, 0);
        north(x, 2, 3, FULL - 2, 0);
        north(x, 3, 2, HALF - 2, 0);
        north(x, 0, 2, -2, -2);
    }

    /** An angle at a mark from one to another, read once. */
    private static int angle(GreatArc x, int at, int from, int to, int mean) {
        int a = x.angle(at, from, to);
        Check.read(x, a, mean);
        return a;
    }

    private static void carried() {
        Check.says(47, "else carried from sights whose NORTH is told, step by step: an ANGLE with a MEAN at the MARK goes from the "
            + "sight that it is from to the one that it is to (and MEAN), or back (less MEAN); what is so told of a sight is told "
            + "of the sight back, too (and HALF, no step).");
        GreatArc x = Check.room(8);
        x.star(0, 1, FULL - 1, 0);
        angle(x, 0, 1, 2, FULL - 1);
        north(x, 0, 2, FULL - 2, 1);
        north(x, 2, 0, HALF - 2, 1);
        // back: the sight that the angle goes to is told
        angle(x, 0, 3, 1, 7);
        north(x, 0, 3, FULL - 8, 1);
        north(x, 3, 0, HALF - 8, 1);
        // less more than there is
        x.star(4, 5, 5, 0);
        angle(x, 4, 6, 5, 10);
        north(x, 4, 6, FULL - 5, 1);
        north(x, 6, 4, HALF - 5, 1);
        angle(x, 4, 7, 5, FULL - 1);
        north(x, 4, 7, 6, 1);
        // on from the sight back
        angle(x, 2, 0, 3, 100);
        north(x, 2, 3, HALF - 2 + 100, 2);
        north(x, 3, 2, FULL - 2 + 100, 2);
        angle(x, 3, 4, 2, 1000);
        north(x, 3, 4, FULL - 902, 3);
        north(x, 4, 3, HALF - 902, 3);
        // a mean of 0 is a mean
        GreatArc y = Check.room(4);
        y.star(0, 1, 77, 0);
        angle(y, 0, 1, 2, 0);
        angle(y, 0, 3, 2, 0);
        north(y, 0, 2, 77, 1);
        north(y, 0, 3, 77, 2);
    }

    private static void notCarried() {
        Check.says(47, "step by step: an ANGLE with a MEAN at the MARK");
        GreatArc x = Check.room(5);
        x.star(0, 1, 50, 0);
        x.angle(0, 1, 2);
        north(x, 0, 2, -2, -2);
        int r = Check.read(x, 0, 5);
        north(x, 0, 2, 55, 1);
        x.strike(r, 0, true);
        north(x, 0, 2, -2, -2);
        x.strike(r, 0, false);
        // at another mark an angle takes nothing from this sight
        angle(x, 3, 1, 2, 9);
        angle(x, 4, 0, 1, 9);
        north(x, 3, 2, -2, -2);
        north(x, 4, 0, -2, -2);
        north(x, 0, 2, 55, 1);
        Check.read(x, 0, 8);
        north(x, 0, 2, 56, 1);
        Check.says(48, "In how many steps (turns by HALF aren't) from a STAR; -2; NONE.");
        north(x, 2, 0, 56 + HALF, 1);
        x.star(2, 0, 1, 0);
        north(x, 0, 2, 1 + HALF, 0);
        north(x, 2, 0, 1, 0);
    }

    private static void leastMark() {
        Check.says(47, "By the fewest steps; of as few by STARS at the least MARK,");
        GreatArc x = Check.room(7);
        // to sight 3 - 4: one step from a star at 6, two from one at 0
        x.star(6, 3, 600, 0);
        x.star(0, 3, 0, 0);
        angle(x, 3, 0, 5, 1);
        angle(x, 3, 5, 4, 1);
        int direct = angle(x, 3, 6, 4, 10);
        north(x, 3, 4, 610 + HALF, 1);
        x.strike(x.led(direct, 0), 0, true);
        north(x, 3, 4, 2 + HALF, 2);
        x.strike(2, 0, false);
        // another star, of a greater number, at a lesser mark; the angle's number is greater, too
        x.star(5, 3, 500, 0);
        north(x, 3, 4, 501 + HALF, 1);
        // where the star stands counts, not where it is seen to
        GreatArc y = Check.room(7);
        angle(y, 2, 0, 4, 1);
        angle(y, 2, 5, 4, 2);
        y.star(2, 0, 1000, 0);
        y.star(2, 5, 2000, 0);
        north(y, 2, 4, 1001, 1);
        GreatArc z = Check.room(7);
        angle(z, 2, 0, 4, 1);
        angle(z, 2, 5, 4, 2);
        z.star(2, 0, 1000, 0);
        z.star(5, 2, 2000, 0);
        north(z, 2, 4, 1001, 1);
        z.star(0, 2, 3000, 0);
        north(z, 2, 4, 1001, 1);
        GreatArc w = Check.room(7);
        angle(w, 2, 5, 4, 2);
        angle(w, 2, 0, 4, 1);
        w.star(5, 2, 2000, 0);
        w.star(0, 2, 3000, 0);
        north(w, 2, 4, 3001 + HALF, 1);
        // to sight 3 - 1 from the own sights of both its ends
        GreatArc v = Check.room(7);
        angle(v, 3, 0, 1, 10);
        angle(v, 1, 0, 3, 200);
        v.star(3, 0, 4000, 0);
        v.star(1, 0, 50000, 0);
        north(v, 1, 3, 50200, 1);
        north(v, 3, 1, 50200 + HALF, 1);
    }

    private static void lesserAngle() {
        Check.says(47, "then by the lesser ANGLE where the rows of ANGLES first differ.");
        GreatArc x = Check.room(5);
        x.star(0, 1, 0, 0);
        angle(x, 0, 1, 2, 10);
        angle(x, 0, 1, 2, 20);
        north(x, 0, 2, 10, 1);
        x.strike(0, 0, true);
        north(x, 0, 2, 20, 1);
        // rows 1, 3 and 2, 0: the first of each counts first, though 0 is the least
        GreatArc y = Check.room(5);
        y.star(0, 1, 0, 0);
        angle(y, 3, 0, 2, 50);
        angle(y, 0, 1, 2, 1000);
        angle(y, 0, 1, 3, 20000);
        angle(y, 2, 0, 3, 300000);
        north(y, 2, 3, 1000 + HALF + 300000, 2);
        north(y, 3, 2, 1000 + 300000, 2);
        y.strike(1, 0, true);
        north(y, 3, 2, 20000 + HALF + 50, 2);
        north(y, 0, 2, 20000 + 50 + FULL - 300000 + HALF, 3);
    }

    /** The ways to a sight in two steps from stars at 2 and at 3, the first angle of the one from 3 is the least. */
    private static void ranked() {
        Check.says(47, "of as few by STARS at the least MARK, then by the lesser ANGLE");
        GreatArc x = Check.room(5);
        angle(x, 0, 3, 1, 10);
        angle(x, 2, 0, 4, 200);
        angle(x, 0, 1, 4, 3000);
        angle(x, 4, 2, 0, 40000);
        x.star(3, 0, 500000, 0);
        x.star(2, 0, 700000, 0);
        north(x, 4, 0, 700000 + 200 + HALF + 40000, 2);
        x.strike(1, 0, true);
        north(x, 0, 4, 500000 + HALF + 10 + 3000, 2);
        // three steps: rows 0 4 2 and 1 3 2 from one star; then 1 is spoilt, and 0 too
        GreatArc y = Check.room(8);
        y.star(0, 1, 0, 0);
        angle(y, 0, 1, 2, 1);
        angle(y, 0, 1, 3, 10);
        angle(y, 4, 5, 6, 100);
        angle(y, 3, 0, 4, 1000);
        angle(y, 2, 0, 4, 10000);
        angle(y, 4, 2, 5, 100000);
        angle(y, 4, 3, 5, 1000000);
        north(y, 4, 5, 1 + HALF + 10000 + HALF + 100000, 3);
        north(y, 4, 6, 1 + 10000 + 100000 + 100, 4);
        y.strike(4, 0, true);
        north(y, 4, 5, 10 + HALF + 1000 + HALF + 1000000, 3);
        north(y, 6, 4, HALF + 10 + 1000 + 1000000 + 100, 4);
    }

    /** A way over all the angles that there may be: 81 sights, each the next one's neighbour. */
    private static void eightySteps() {
        Check.says(48, "In how many steps (turns by HALF aren't) from a STAR;");
        GreatArc x = Check.room(30);
        int[] way = new int[82];
        for (int i = 1; i < way.length; i++) {
            int stride = i <= 30 ? 1 : i <= 60 ? 7 : 11;
            way[i] = (way[i - 1] + stride) % 30;
        }
        for (int i = 80; i >= 1; i--) {
            x.angle(way[i], way[i - 1], way[i + 1]);
            Check.read(x, 80 - i, i);
        }
        x.star(way[0], way[1], 0, 0);
        int sum = 0;
        for (int i = 0; i <= 80; i++) {
            sum += i;
            Check.due("steps to the sight " + i, x.steps(way[i], way[i + 1]), i);
            Check.due("its north", x.north(way[i], way[i + 1]), (sum + i % 2 * HALF) % FULL);
        }
    }

    private static void noNorth() {
        Check.says(47, "NORTH of a MARK's sight to another one; -2 if it can't be told; NONE.");
        GreatArc x = Check.room(3);
        north(x, 0, 1, -2, -2);
        int[][] none = {{0, 0}, {3, 0}, {0, 3}, {-1, 0}, {0, -1}, {NO_INT, 0}, {0, Integer.MAX_VALUE}};
        for (int[] n : none) {
            Check.due("north of " + n[0] + " to " + n[1], x.north(n[0], n[1]), -1);
            Check.due("steps of " + n[0] + " to " + n[1], x.steps(n[0], n[1]), -1);
        }
    }

    private static void levels() {
        Check.says(49, "A LEVEL: its number. NONE: 1; 2; 3.");
        GreatArc x = Check.room(3);
        int[][] bad = {{3, 0, 0, 0, 1}, {0, 3, 0, 0, 1}, {-1, 0, 0, 0, 1}, {0, -1, 0, 0, 1}, {1, 1, 0, 0, 1},
            {0, 1, 1000001, 0, 2}, {0, 1, -1000001, 0, 2}, {0, 1, 0, -1, 2}, {0, 1, 0, 24, 2}, {0, 1, NO_INT, 0, 2},
            {0, 1, Integer.MAX_VALUE, 0, 2}, {NO_INT, 1, 0, 0, 1}};
        for (int[] b : bad) {
            Check.refused(x, "level " + b[0] + " " + b[1] + " " + b[2] + " " + b[3], x.level(b[0], b[1], b[2], b[3]), b[4]);
            Check.due("LEVELS", x.count(9), 0);
            Check.due("none between", x.between(0, 1), NO_INT);
        }
        Check.told(x, "the most", x.level(0, 1, 1000000, 0), 0);
        Check.due("the most", x.between(0, 1), 1000000);
        Check.told(x, "the least", x.level(0, 2, -1000000, 23), 1);
        Check.due("the least", x.between(0, 2), -1000000);
    }

    /** Levels one way and the other, and what is between. */
    private static void height(int[] there, int[] back, int want, int doubt) {
        GreatArc x = Check.room(3);
        for (int up : there) {
            x.level(1, 2, up, 0);
        }
        for (int up : back) {
            x.level(2, 1, up, 5);
        }
        x.level(0, 1, 77, 0);
        Check.due("there", x.between(1, 2), want);
        Check.due("back", x.between(2, 1), want == NO_INT ? NO_INT : -want);
        Check.due("doubt", x.doubt(1, 2), doubt);
        Check.due("doubt back", x.doubt(2, 1), doubt);
    }

    private static int[] of(int... ups) {
        return ups;
    }

    private static void between() {
        Check.says(50, "A LEVEL from a MARK to another one: up (-1,000,000 .. 1,000,000) at an HOUR: BETWEEN two MARKS (means "
            + "downwards): if there are some both ways the mean one way less the mean the other way, halved, toward 0, doubt 0;");
        height(of(10), of(-10), 10, 0);
        height(of(10), of(-11), 10, 0);
        height(of(-10), of(11), -10, 0);
        height(of(10), of(10), 0, 0);
        height(of(10), of(11), 0, 0);
        height(of(10), of(9), 0, 0);
        height(of(10), of(12), -1, 0);
        height(of(-1, -2), of(3, 4), -2, 0);
        height(of(1, 2), of(-3, -4), 2, 0);
        height(of(1, 2), of(-3, -4, -4), 2, 0);
        height(of(5, 6, 6), of(-5, -6, -6), 5, 0);
        height(of(1000000), of(-1000000), 1000000, 0);
        height(of(-1000000, -1000000), of(1000000), -1000000, 0);
        Check.says(50, "else the mean one way, or less the mean the other way;");
        height(of(7), of(), 7, 11);
        height(of(), of(7), -7, 11);
        height(of(7, 8), of(), 7, 11);
        height(of(), of(7, 8), -7, 11);
        height(of(-7, -8), of(), -8, 11);
        height(of(), of(-7, -8), 8, 11);
        height(of(-1, 0, 0), of(), -1, 11);
        Check.says(50, "BETWEEN two MARKS: how much the second is higher; -2^31 if there is no LEVEL, for no such ones.");
        height(of(), of(), NO_INT, -1);
        GreatArc x = Check.room(3);
        x.level(0, 1, 5, 0);
        Check.due("the second is higher", x.between(0, 1), 5);
        Check.due("of others", x.between(0, 2), NO_INT);
        Check.says(51, "Its doubt; NONE likewise.");
        Check.due("of others", x.doubt(0, 2), -1);
        int[][] none = {{0, 0}, {0, 3}, {3, 0}, {-1, 1}, {0, -1}, {NO_INT, 1}, {0, Integer.MAX_VALUE}};
        for (int[] n : none) {
            Check.due("between " + n[0] + " and " + n[1], x.between(n[0], n[1]), NO_INT);
            Check.due("doubt of " + n[0] + " and " + n[1], x.doubt(n[0], n[1]), -1);
        }
    }

    private static void doubt() {
        Check.says(51, "doubt: a 100th of it, without its sign, upwards, and 10.");
        int[] ups = {0, 1, 99, 100, 101, 199, 200, 201, 1000000, 999901, 999900};
        int[] doubts = {10, 11, 11, 11, 12, 12, 12, 13, 10010, 10010, 10009};
        for (int i = 0; i < ups.length; i++) {
            height(of(ups[i]), of(), ups[i], doubts[i]);
            height(of(-ups[i]), of(), -ups[i], doubts[i]);
            height(of(), of(ups[i]), -ups[i], doubts[i]);
        }
    }

    private static void masses() {
        Check.says(52, "A MASS at a CELL's place, so heavy (1 .. 1,000,000).");
        GreatArc x = new GreatArc();
        x.mark(0);
        Check.told(x, "the least", x.mass(1, 1), 0);
        Check.due("1 by 1", x.pull(0, false), 1);
        Check.told(x, "the most", x.mass(1023, 1000000), 1);
        Check.due("31,000,000 by 1,922", x.pull(0, true), 16129);
        Check.says(52, "A MASS: its number. NONE: 1; 2; 3.");
        int[][] bad = {{1024, 5, 1}, {-1, 5, 1}, {NO_INT, 5, 1}, {Integer.MAX_VALUE, 5, 1}, {5, 0, 2}, {5, 1000001, 2}, {5, -1, 2},
            {5, NO_INT, 2}, {5, Integer.MAX_VALUE, 2}};
        for (int[] b : bad) {
            Check.refused(x, "mass " + b[0] + " " + b[1], x.mass(b[0], b[1]), b[2]);
            Check.due("pull as ahead", x.pull(0, false), 16130);
        }
        Check.told(x, "on a cell that has one", x.mass(1, 1), 2);
        Check.due("both", x.pull(0, false), 16131);
    }

    /** The pull at the cell 17, 20, behind a mark elsewhere, of masses dx, dy, heavy. */
    private static void pulls(int x, int y, int[]... masses) {
        GreatArc arc = new GreatArc();
        arc.mark(900);
        arc.mark(20 * 32 + 17);
        for (int[] m : masses) {
            arc.mass((20 + m[1]) * 32 + 17 + m[0], m[2]);
        }
        Check.due("by x", arc.pull(1, false), x);
        Check.due("by y", arc.pull(1, true), y);
    }

    private static void pull() {
        Check.says(53, "PULL at a MARK: by x the sum of mass times dx by (dx dx + dy dy), toward 0 each (none of a MASS on its own "
            + "CELL); by y likewise.");
        pulls(0, 0);
        pulls(7, 0, of(1, 0, 7));
        pulls(-7, 0, of(-1, 0, 7));
        pulls(0, 7, of(0, 1, 7));
        pulls(0, -7, of(0, -1, 7));
        pulls(3, 3, of(1, 1, 7));
        pulls(-3, 3, of(-1, 1, 7));
        // 16 by 5 and 8 by 5, each of them toward 0
        pulls(3, 1, of(2, 1, 8));
        pulls(-3, -1, of(-2, -1, 8));
        pulls(-6, -2, of(-2, -1, 8), of(-2, -1, 8));
        pulls(0, 0, of(-2, -1, 8), of(2, 1, 8));
        pulls(0, 0, of(0, 0, 1000000));
        pulls(7, 0, of(0, 0, 1000000), of(1, 0, 7));
        pulls(-62500, 0, of(-16, 0, 1000000));
        Check.says(53, "PULL at a MARK by x (or y); -2^31 for no such one.");
        GreatArc x = new GreatArc();
        Check.due("no mark yet", x.pull(0, false), NO_INT);
        x.mark(5);
        int[] none = {-1, 1, NO_INT, Integer.MAX_VALUE};
        for (int n : none) {
            Check.due("pull at " + n, x.pull(n, false), NO_INT);
            Check.due("pull at " + n, x.pull(n, true), NO_INT);
        }
        Check.due("a mark now", x.pull(0, false), 0);
    }

    private static void arcs() {
        Check.says(54, "ARCS: at a degree (0 .. 90) so long (1 .. 1,000,000).");
        GreatArc x = new GreatArc();
        Check.told(x, "the least of both", x.arc(0, 1), 0);
        Check.told(x, "the most of both", x.arc(90, 1000000), 1);
        Check.due("999,999 by 90", x.figure(false), 11111100);
        Check.says(54, "An ARC: its number. NONE: 2; 3.");
        int[][] bad = {{-1, 5}, {91, 5}, {5, 0}, {5, 1000001}, {5, -1}, {NO_INT, 5}, {Integer.MAX_VALUE, 5}, {5, NO_INT},
            {5, Integer.MAX_VALUE}};
        for (int[] b : bad) {
            Check.refused(x, "arc " + b[0] + " " + b[1], x.arc(b[0], b[1]), 2);
            Check.due("as ahead", x.figure(false), 11111100);
        }
        Check.told(x, "a third", x.arc(0, 1), 2);
    }

    private static void line(long q, long p, int[]... arcs) {
        GreatArc x = new GreatArc();
        for (int[] a : arcs) {
            x.arc(a[0], a[1]);
        }
        Check.due("q", x.figure(false), q);
        Check.due("p", x.figure(true), p);
    }

    private static void figure() {
        Check.says(55, "FIGURE: the line p + q times degree that fits least by squares: q in thousandths, p likewise, downwards; of "
            + "fewer than two degrees none.");
        long none = Long.MIN_VALUE;
        line(none, none);
        line(none, none, of(5, 100));
        line(none, none, of(5, 100), of(5, 200), of(5, 300));
        line(none, none, of(0, 100), of(0, 200));
        line(3000, 970000, of(10, 1000), of(11, 1003));
        line(0, 7000, of(0, 7), of(90, 7));
        line(1500, 833, of(0, 1), of(1, 2), of(2, 4));
        line(-1500, 3833, of(0, 4), of(1, 2), of(2, 1));
        // -4 by 14 and 24 by 14; 39 by 14 and -1,166 by 14
        line(-286, 1714, of(0, 2), of(1, 1), of(3, 1));
        line(2785, -83286, of(30, 1), of(31, 2), of(33, 9));
        // thirty: 0, 3, 6 .. 87 and squares of 0 .. 29, of which each 3 degrees more are 29 more on the whole
        int[][] thirty = new int[30][];
        for (int i = 0; i < 30; i++) {
            thirty[i] = of(3 * i, 1000 + i * i);
        }
        line(9666, 864666, thirty);
        line(999999000L, -88999910000L, of(89, 1), of(90, 1000000));
        line(-999999000L, 89999911000L, of(89, 1000000), of(90, 1));
        Check.says(55, "FIGURE: q (or p) in thousandths; -2^63 if there is none.");
        GreatArc x = new GreatArc();
        Check.due("ahead of any", x.figure(true), none);
        x.arc(7, 50);
        x.arc(7, 60);
        Check.due("one degree", x.figure(true), none);
        x.arc(8, 60);
        Check.due("5 a degree", x.figure(false), 5000);
        Check.due("55 at 7", x.figure(true), 20000);
    }
}
