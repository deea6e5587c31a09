/** Promises 46 to 55: stars and the north carried on, levels, masses, the figure. */
public final class SkyTest {
    private static final int FULL = 12960000;
    private static final int HALF = 6480000;

    public static void main(String[] args) {
        stars();
        north();
        carried();
        ties();
        levels();
        masses();
        arcs();
        Check.end();
    }

    private static void stars() {
        GreatArc x = Check.room(3);
        Check.refused(46, x, "no mark", x.star(3, 0, 0, 0), 1);
        Check.refused(46, x, "no mark", x.star(0, -1, -1, 0), 1);
        Check.refused(46, x, "the mark itself", x.star(1, 1, 0, 0), 1);
        Check.refused(46, x, "ticks", x.star(0, 1, -1, 0), 2);
        Check.refused(46, x, "ticks", x.star(0, 1, FULL, 0), 2);
        Check.refused(46, x, "hour", x.star(0, 1, 0, 24), 2);
        Check.refused(46, x, "hour", x.star(0, 1, 0, -1), 2);
        for (int s = 0; s < 20; s++) {
            Check.told(46, x, "star", x.star(s % 2, 2, s == 0 ? FULL - 1 : 0, s), s);
        }
        Check.refused(46, x, "a 21st", x.star(0, 1, 0, 0), 3);
        Check.due(46, "count(8)", x.count(8), 20);
    }

    private static void north() {
        GreatArc x = Check.room(3);
        Check.due(47, "no mark", x.north(0, 3), -1);
        Check.due(47, "itself", x.north(1, 1), -1);
        Check.due(48, "no mark", x.steps(-1, 0), -1);
        Check.due(48, "itself", x.steps(1, 1), -1);
        Check.due(47, "no star", x.north(0, 1), -2);
        Check.due(48, "no star", x.steps(0, 1), -2);
        x.star(0, 1, FULL - 1, 5);
        Check.due(47, "its own", x.north(0, 1), FULL - 1);
        Check.due(47, "the way back", x.north(1, 0), HALF - 1);
        x.star(0, 1, 0, 5);
        // a plain mean, whatever lies between
        Check.due(47, "the mean downwards", x.north(0, 1), (FULL - 1) / 2);
        Check.due(47, "the way back", x.north(1, 0), (FULL - 1) / 2 + HALF);
        x.star(1, 0, 77, 5);
        Check.due(47, "its own", x.north(1, 0), 77);
        Check.due(47, "its own", x.north(0, 1), (FULL - 1) / 2);
        Check.due(48, "steps", x.steps(1, 0), 0);
    }

    private static int angle(GreatArc x, int at, int from, int to, int mean) {
        int a = x.angle(at, from, to);
        Check.read(x, a, mean);
        return a;
    }

    private static void sight(GreatArc x, int at, int to, int north, int steps) {
        Check.due(47, "north " + at + " " + to, x.north(at, to), Math.floorMod(north, FULL));
        Check.due(48, "steps " + at + " " + to, x.steps(at, to), steps);
        Check.due(47, "north " + to + " " + at, x.north(to, at), Math.floorMod(north + HALF, FULL));
        Check.due(48, "steps " + to + " " + at, x.steps(to, at), steps);
    }

    private static void carried() {
        GreatArc x = Check.room(6);
        x.star(0, 1, 100, 0);
        angle(x, 1, 2, 0, 1000);
        // at 1 from 2 to 0: to 2 it goes back from 0
        sight(x, 0, 1, 100, 0);
        sight(x, 1, 2, 100 + HALF - 1000, 1);
        int b = angle(x, 2, 1, 3, 12959999);
        sight(x, 2, 3, 100 - 1000 - 1, 2);
        angle(x, 3, 2, 4, 5);
        sight(x, 3, 4, 100 - 1000 - 1 + HALF + 5, 3);
        Check.due(47, "not that far", x.north(4, 5), -2);
        Check.due(48, "not that far", x.steps(4, 5), -2);
        int reading = x.led(b, 0);
        x.strike(reading, 0, true);
        Check.due(47, "no mean on the way", x.north(3, 4), -2);
        sight(x, 1, 2, 100 + HALF - 1000, 1);
        x.strike(reading, 0, false);
        x.star(4, 3, 9, 0);
        // a star at the other end: the sight is told from it, and 2 - 3 in one step now
        sight(x, 4, 3, 9, 0);
        sight(x, 3, 2, 9 + HALF - 5, 1);
    }

    private static void ties() {
        GreatArc x = Check.room(6);
        // to sight 3 - 4 in one step from stars at 2 (by the lesser angle) and at 1
        angle(x, 3, 2, 4, 10);
        angle(x, 3, 1, 4, 20);
        x.star(2, 3, 1000, 0);
        sight(x, 3, 4, 1000 + HALF + 10, 1);
        x.star(3, 1, 5000, 0);
        sight(x, 3, 4, 1000 + HALF + 10, 1);
        x.star(1, 3, 7000, 0);
        // the sight 3 - 1 has its own star at 3 still, and 3 is more than 2
        sight(x, 3, 4, 1000 + HALF + 10, 1);
        GreatArc y = Check.room(6);
        angle(y, 3, 2, 4, 10);
        angle(y, 3, 1, 4, 20);
        y.star(2, 3, 1000, 0);
        y.star(1, 3, 7000, 0);
        // the star at 1 is at the lesser mark
        sight(y, 3, 4, 7000 + HALF + 20, 1);
        angle(y, 3, 1, 4, 30);
        sight(y, 3, 4, 7000 + HALF + 20, 1);
        y.strike(1, 0, true);
        sight(y, 3, 4, 7000 + HALF + 30, 1);
        rows();
    }

    /** Rows of two: the first angle decides, even where the second is the lesser in the other row. */
    private static void rows() {
        GreatArc x = Check.room(5);
        x.star(0, 1, 0, 0);
        int end3 = angle(x, 0, 3, 4, 1);
        int to2 = angle(x, 0, 1, 2, 100);
        int to3 = angle(x, 0, 1, 3, 10000);
        int end2 = angle(x, 0, 2, 4, 1000000);
        Check.due(48, "numbers as meant", end3 < to2 && to2 < to3 && to3 < end2, true);
        Check.due(47, "over 2", x.north(0, 4), 1000100);
        Check.due(48, "two steps", x.steps(0, 4), 2);
        x.strike(x.led(to2, 0), 0, true);
        Check.due(47, "over 3", x.north(0, 4), 10001);
    }

    private static void levels() {
        GreatArc x = Check.room(3);
        Check.refused(49, x, "no mark", x.level(0, 3, 0, 0), 1);
        Check.refused(49, x, "itself", x.level(0, 0, 0, 99), 1);
        Check.refused(49, x, "up", x.level(0, 1, 1000001, 0), 2);
        Check.refused(49, x, "up", x.level(0, 1, -1000001, 0), 2);
        Check.refused(49, x, "hour", x.level(0, 1, 0, 24), 2);
        Check.due(50, "no level", x.between(0, 1), Integer.MIN_VALUE);
        Check.due(51, "no level", x.doubt(0, 1), -1);
        Check.due(50, "no mark", x.between(0, 3), Integer.MIN_VALUE);
        Check.due(50, "itself", x.between(1, 1), Integer.MIN_VALUE);
        Check.due(51, "no mark", x.doubt(3, 0), -1);
        Check.told(49, x, "level", x.level(0, 1, -100, 0), 0);
        Check.due(50, "there", x.between(0, 1), -100);
        Check.due(50, "back", x.between(1, 0), 100);
        Check.due(51, "a 100th and 10", x.doubt(0, 1), 11);
        Check.told(49, x, "level", x.level(0, 1, -103, 23), 1);
        Check.due(50, "-101.5 downwards", x.between(0, 1), -102);
        Check.due(50, "less it", x.between(1, 0), 102);
        Check.due(51, "1.02 upwards and 10", x.doubt(1, 0), 12);
        Check.told(49, x, "level", x.level(1, 0, 109, 23), 2);
        Check.due(50, "-211 halved toward 0", x.between(0, 1), -105);
        Check.due(50, "211 halved toward 0", x.between(1, 0), 105);
        Check.due(51, "both ways", x.doubt(0, 1), 0);
        x.level(1, 2, 0, 0);
        Check.due(50, "0", x.between(2, 1), 0);
        Check.due(51, "0 and 10", x.doubt(2, 1), 10);
        for (int i = 4; i < 60; i++) {
            Check.told(49, x, "level", x.level(0, 2, 1000000, 0), i);
        }
        Check.refused(49, x, "a 61st", x.level(0, 2, 0, 0), 3);
        Check.due(50, "far up", x.between(0, 2), 1000000);
        Check.due(51, "far up", x.doubt(2, 0), 10010);
        Check.due(49, "count(9)", x.count(9), 60);
    }

    private static void masses() {
        GreatArc x = new GreatArc();
        x.mark(5 * 32 + 5);
        Check.due(53, "no mass", x.pull(0, false), 0);
        Check.due(53, "no mark", x.pull(1, false), Integer.MIN_VALUE);
        Check.due(53, "no mark", x.pull(-1, true), Integer.MIN_VALUE);
        Check.refused(52, x, "no cell", x.mass(1024, 1), 1);
        Check.refused(52, x, "no cell", x.mass(-1, 0), 1);
        Check.refused(52, x, "weight", x.mass(0, 0), 2);
        Check.refused(52, x, "weight", x.mass(0, 1000001), 2);
        Check.told(52, x, "on its own cell", x.mass(5 * 32 + 5, 1000000), 0);
        Check.due(53, "none of it", x.pull(0, true), 0);
        // dx -2 and dy 1: -200 by 5 and 100 by 5
        Check.told(52, x, "mass", x.mass(6 * 32 + 3, 101), 1);
        Check.due(53, "by x toward 0", x.pull(0, false), -40);
        Check.due(53, "by y", x.pull(0, true), 20);
        // dx 3, dy 0: 8 * 3 by 9 is 2.7
        Check.told(52, x, "mass", x.mass(5 * 32 + 8, 8), 2);
        Check.due(53, "each toward 0", x.pull(0, false), -38);
        Check.due(53, "by y", x.pull(0, true), 20);
        for (int m = 3; m < 12; m++) {
            Check.told(52, x, "mass", x.mass(1023, 1000000), m);
        }
        Check.refused(52, x, "a 13th", x.mass(0, 1), 3);
        Check.due(53, "26,000,000 by 1,352 nine times", x.pull(0, true), 20 + 9 * (26000000 / 1352));
    }

    private static void arcs() {
        GreatArc x = new GreatArc();
        Check.due(55, "none", x.figure(false), Long.MIN_VALUE);
        Check.refused(54, x, "degree", x.arc(-1, 5), 2);
        Check.refused(54, x, "degree", x.arc(91, 5), 2);
        Check.refused(54, x, "length", x.arc(0, 0), 2);
        Check.refused(54, x, "length", x.arc(0, 1000001), 2);
        Check.told(54, x, "arc", x.arc(0, 1000), 0);
        Check.due(55, "one", x.figure(true), Long.MIN_VALUE);
        Check.told(54, x, "arc", x.arc(0, 3000), 1);
        Check.due(55, "one degree twice", x.figure(true), Long.MIN_VALUE);
        Check.told(54, x, "arc", x.arc(3, 1000), 2);
        Check.due(55, "q: -1,000 by 3 downwards", x.figure(false), -333334);
        Check.due(55, "p", x.figure(true), 2000000);
        for (int a = 3; a < 30; a++) {
            Check.told(54, x, "arc", x.arc(90, 1000000), a);
        }
        Check.refused(54, x, "a 31st", x.arc(5, 5), 3);
        Plain y = new Plain();
        y.arc(0, 1000);
        y.arc(0, 3000);
        y.arc(3, 1000);
        for (int a = 3; a < 30; a++) {
            y.arc(90, 1000000);
        }
        Check.due(55, "q of many", x.figure(false), y.figure(false));
        Check.due(55, "p of many", x.figure(true), y.figure(true));
    }
}
