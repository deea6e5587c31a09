/** Rooms in which what the document bounds is all there: nothing is asked of what would stand behind the last. */
public final class FullTest {
    private static final int SIXTY = 2160000;
    private static final int HALF = 6480000;

    public static void main(String[] args) {
        angles();
        carriedByAll();
        rules();
        conditions();
        readings();
        askedOften();
        Check.end();
    }

    /** A triangle's angles, and so many more at mark 0 that there are 80 with the last one read, too. */
    private static void angles() {
        Check.says(9, "I. BOUNDS. MARKS 30, ANGLES 80,");
        GreatArc x = Check.room(30);
        x.angle(0, 1, 2);
        x.angle(1, 2, 0);
        x.angle(2, 0, 1);
        for (int a = 3; a < 80; a++) {
            Check.told(x, "an angle", x.angle(0, 1 + a % 2, 3 + a % 27), a);
        }
        Check.refused(x, "an 81st", x.angle(0, 1, 2), 3);
        for (int a : new int[] {0, 1, 2, 79}) {
            Check.read(x, a, SIXTY + a);
        }
        Check.told(x, "a triangle", x.triangle(0, 1, 2, 0), 0);
        Check.told(x, "a rule that strikes", Check.rule(x, "strike if hour<5"), 0);
        Check.told(x, "in force on other days", x.force(0, 1, 2));
        Check.due("MEAN of the last", x.angleOf(79, 0), SIXTY + 79);
        Check.due("its WEIGHT", x.angleOf(79, 8), 1);
        Check.due("known", x.known(79, 0), SIXTY + 79);
        Check.due("led", x.led(79, 0), 3);
        Check.due("all but four are AGAIN", x.count(13), 76);
        Check.told(x, "adjusted", x.adjust(1, 0), 3);
        Check.due("a change", x.change(2), -1000);
        Check.due("none of the last", x.change(79), Integer.MIN_VALUE);
        Check.due("blunders", x.blunder(), 0);
        Check.due("wide", x.wide(), 0);
        x.star(0, 1 + 79 % 2, 5000, 0);
        Check.due("north over the last", x.north(0, 3 + 79 % 27), SIXTY + 79 + 5000);
    }

    /** Every angle tells a sight and its back of its own, all in the first step. */
    private static void carriedByAll() {
        Check.says(47, "an ANGLE with a MEAN at the MARK goes from the sight that it is from to the one that it is to (and MEAN)");
        GreatArc x = Check.room(30);
        for (int m = 0; m < 3; m++) {
            x.star(m, (m + 1) % 3, 1000 * m, 0);
        }
        for (int a = 0; a < 80; a++) {
            Check.told(x, "an angle", x.angle(a % 3, (a + 1) % 3, 3 + a / 3), a);
            Check.read(x, a, 100 + a);
        }
        for (int a = 0; a < 80; a++) {
            Check.due("north over " + a, x.north(a % 3, 3 + a / 3), 1000 * (a % 3) + 100 + a);
            Check.due("back", x.north(3 + a / 3, a % 3), HALF + 1000 * (a % 3) + 100 + a);
        }
        Check.due("one step", x.steps(1, 29), 1);
        Check.due("no angle is left for this one", x.north(2, 29), -2);
        Check.due("nor for its steps", x.steps(2, 29), -2);
    }

    private static void rules() {
        Check.says(17, "RULES 24;");
        GreatArc x = Check.room(3);
        x.angle(2, 0, 1);
        Check.read(x, 0, 100);
        String[] texts = {"strike if 1=2", "weight 5 if 1=2", "again if 1=2", "least 7", "close 7", "weight 6 if kept=2"};
        for (int r = 0; r < 24; r++) {
            Check.told(x, "a rule", Check.rule(x, texts[r % 6], r % 6 == 3 || r % 6 == 4 ? 1 : 0, 2), r);
        }
        Check.due("none strikes", x.reading(0, 6), -2);
        Check.due("none weighs", x.angleOf(0, 8), 1);
        Check.due("none sends again", x.angleOf(0, 9), 0);
        Check.due("no LEAST ANGLE", x.told(0), 0);
        Check.due("ALLOWED", x.told(1), 100);
        Check.told(x, "the last is in force", x.force(23, 0, 0));
        Check.read(x, 0, 100);
        Check.due("it weighs", x.angleOf(0, 8), 6);
    }

    /** All triangles and rounds there may be, each of the same few angles. */
    private static void conditions() {
        Check.says(26, "TRIANGLES 30, ROUNDS 12,");
        GreatArc x = Check.room(3);
        x.angle(0, 1, 2);
        x.angle(1, 2, 0);
        x.angle(2, 0, 1);
        x.angle(0, 2, 1);
        for (int a = 0; a < 3; a++) {
            Check.read(x, a, SIXTY);
        }
        Check.read(x, 3, 5 * SIXTY + 7);
        for (int t = 0; t < 30; t++) {
            Check.told(x, "a triangle", x.triangle(t % 3, (t + 1) % 3, (t + 2) % 3, t), t);
        }
        Check.refused(x, "a 31st", x.triangle(0, 1, 2, 0), 3);
        for (int r = 0; r < 12; r++) {
            Check.told(x, "a round", x.round(3 * (r % 2), 3 - 3 * (r % 2), -1, 0, 0, 0), r);
        }
        Check.refused(x, "a 13th", x.round(0, 3, -1, 0, 0, 0), 3);
        Check.due("MISS of the last triangle", x.miss(29, false), -29);
        Check.due("MISS of the last round", x.miss(11, true), 7);
        Check.due("none behind it", x.miss(30, false), Integer.MIN_VALUE);
        Check.due("none behind it", x.miss(12, true), Integer.MIN_VALUE);
        Check.rule(x, "close 6");
        Check.due("7 .. 29, and the rounds", x.wide(), 23 + 12);
        Check.told(x, "the last of both", x.adjust(1 << 29, 1 << 11), 4);
        // 3 + 13 + 13 is 29, 3 - 10 is -7: 5 times the first is 15
        Check.due("CHANGE", x.change(0), 3000);
        Check.due("CHANGE", x.change(1), 13000);
        Check.due("CHANGE", x.change(3), -10000);
        Check.due("COST", x.cost(), 447000);
        Check.refused(x, "one behind the last triangle", x.adjust(1 << 30, 0), 1);
        Check.refused(x, "the sign", x.adjust(1 << 31, 0), 1);
        Check.refused(x, "one behind the last round", x.adjust(0, 1 << 12), 1);
        x.base(0, 1, 0);
        Check.refused(x, "all are WELL", x.chain(0, 1, 2), 7);
        Check.told(x, "the last one", x.check(0, 1, 2, 29, -1, 0, 0, 0, 0), 1);
        Check.told(x, "those ahead", x.check(0, 1, 2, 6, 5, -1, 0, 0, 0), 0);
        Check.told(x, "a suspect", x.suspect(3), 1);
        Check.due("not even all do", x.blunder(), -2);
    }

    /** Twenty readings of one angle, each struck and led to. */
    private static void readings() {
        Check.says(10, "READINGS 1,200 (20 an ANGLE),");
        GreatArc x = Check.room(3);
        x.angle(0, 1, 2);
        x.angle(0, 2, 1);
        for (int r = 0; r < 20; r++) {
            Check.told(x, "a reading", Check.read(x, 0, 1000 - r), r);
        }
        Check.due("MIDDLE", x.angleOf(0, 7), 990);
        Check.due("the last", x.led(0, 19), 19);
        Check.due("none behind it", Check.throwsNoSuch(x, 0, 20), true);
        for (int r = 0; r < 20; r++) {
            Check.due("AGAIN", x.angleOf(0, 9), 0);
            Check.told(x, "struck", x.strike(r, 0, true));
            Check.due("KEPT", x.angleOf(0, 4), 19 - r);
        }
        Check.due("AGAIN", x.angleOf(0, 9), 1);
        Check.due("none is led to", Check.throwsNoSuch(x, 0, 0), true);
    }

    /** What is asked again and again leaves nothing behind that a later answer hangs on. */
    private static void askedOften() {
        Check.says(47, "then by the lesser ANGLE where the rows of ANGLES first differ.");
        GreatArc x = Check.room(9);
        x.star(6, 7, 40, 0);
        int[][] angles = {{6, 7, 8}, {0, 1, 2}, {0, 1, 3}, {3, 0, 2}, {2, 0, 3}};
        for (int a = 0; a < angles.length; a++) {
            x.angle(angles[a][0], angles[a][1], angles[a][2]);
            Check.read(x, a, 100 * (a + 1));
        }
        for (int i = 0; i < 200; i++) {
            Check.due("over angle 0", x.north(6, 8), 140);
        }
        x.star(0, 1, 7, 0);
        // over 1 and 4: back of 0-2, and its turn; over 2 and 3 the last angle is the lesser, but the first one isn't
        Check.due("over angles 1 and 4", x.north(2, 3), HALF + 7 + 200 + 500);
        Check.due("two steps", x.steps(2, 3), 2);
        Check.due("back", x.north(3, 2), 7 + 200 + 500);
    }
}
