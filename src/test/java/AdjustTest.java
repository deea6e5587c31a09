/** Promises 31 to 34 once more: least changes solved by hand, far ones, and wide systems beside fractions of Plain. */
public final class AdjustTest {
    private static final int NO_INT = Integer.MIN_VALUE;

    public static void main(String[] args) {
        adjustTold();
        adjustKept();
        adjustFar();
        adjustWideMatrix();
        Check.end();
    }

    /** Angles 0, 1, 2 at marks 0, 1, 2, of one triangle, and 3 the other way about at mark 0. */
    private static GreatArc three() {
        GreatArc x = Check.room(5);
        x.angle(0, 1, 2);
        x.angle(1, 2, 0);
        x.angle(2, 0, 1);
        x.angle(0, 2, 1);
        return x;
    }

    private static void adjustTold() {
        GreatArc x = three();
        x.triangle(0, 1, 2, 0);
        x.round(0, 3, -1, 0, 0, 0);
        Check.due(32, "ahead of any", x.change(0), NO_INT);
        Check.due(33, "ahead of any", x.part(0, false), NO_INT);
        Check.due(34, "ahead of any", x.cost(), Long.MIN_VALUE);
        Check.read(x, 0, 2160000);
        Check.read(x, 1, 2160000);
        Check.read(x, 2, 2160007);
        Check.read(x, 3, 10799998);
        // weights 2, 3, 4 at marks 0, 1, 2
        Check.rule(x, "weight at + 2");
        Check.told(31, x, "the triangle", x.adjust(1, 0), 3);
        // -7 is shared as 1/2 : 1/3 : 1/4, by 13/12: -42/13, -28/13, -21/13
        int[] up = {-42, -28, -21};
        for (int a = 0; a < 3; a++) {
            Check.due(33, "numerator", x.part(a, false), up[a]);
            Check.due(33, "denominator", x.part(a, true), 13);
            Check.due(32, "thousandths downwards", x.change(a), Math.floorDiv(1000 * up[a], 13));
        }
        Check.due(34, "49 by 13/12", x.cost(), 49 * 12 * 1000 / 13);
        Check.due(32, "not in it", x.change(3), NO_INT);
        Check.due(33, "not in it", x.part(3, true), NO_INT);
        Check.due(32, "no such", x.change(80), NO_INT);
        Check.due(33, "no such", x.part(-1, false), NO_INT);
        Check.told(31, x, "the round", x.adjust(0, 1), 2);
        Check.due(33, "2 shared by two alike", x.part(0, false), 1);
        Check.due(33, "2 shared by two alike", x.part(3, true), 1);
        Check.due(34, "2 * 1 + 2 * 1", x.cost(), 4000);
        Check.told(31, x, "both", x.adjust(1, 1), 4);
        // c + d = 2 and a + b + c = -7 at mark 0 of weight 2: with c, d = 2 - c, and b, e as 4 : 3 of -7 - c
        // 2 c + 2 (c - 2) + (12/7)(c + 7) = 0, so 40/7 c = -8 and c = -7/5
        Check.due(33, "c", x.part(0, false), -7);
        Check.due(33, "c", x.part(0, true), 5);
        Check.due(33, "d", x.part(3, false), 17);
        Check.due(33, "d", x.part(3, true), 5);
        Check.due(33, "b", x.part(1, false), -16);
        Check.due(33, "b", x.part(1, true), 5);
        Check.due(32, "e is -12/5", x.change(2), -2400);
        // 2 * 49/25 + 2 * 289/25 + 3 * 256/25 + 4 * 144/25 is 2020/25
        Check.due(34, "both", x.cost(), 80800);
    }

    private static void adjustKept() {
        GreatArc x = three();
        x.triangle(0, 1, 2, 0);
        Check.read(x, 0, 2160000);
        Check.read(x, 1, 2160000);
        Check.read(x, 2, 2160000);
        Check.told(31, x, "no miss", x.adjust(1, 0), 3);
        Check.due(33, "0 is 0 by 1", x.part(1, false), 0);
        Check.due(33, "0 is 0 by 1", x.part(1, true), 1);
        Check.due(34, "0", x.cost(), 0);
        Check.read(x, 2, 2160006);
        Check.rule(x, "weight 9 if at = 0");
        Check.due(32, "as adjusted then", x.change(2), 0);
        x.adjust(1, 0);
        Check.due(32, "-3 shared as 1/9 : 1 : 1", x.change(0), Math.floorDiv(-3000, 19));
        Check.due(32, "-3 shared as 1/9 : 1 : 1", x.change(1), Math.floorDiv(-27000, 19));
        x.strike(0, 0, true);
        Check.refused(31, x, "no mean any more", x.adjust(1, 0), 5);
        Check.due(32, "as adjusted then", x.change(0), Math.floorDiv(-3000, 19));
    }

    private static void adjustFar() {
        GreatArc x = three();
        x.triangle(0, 1, 2, 0);
        Check.read(x, 0, 12959999);
        Check.read(x, 1, 12959999);
        Check.read(x, 2, 12959999);
        x.adjust(1, 0);
        // each less 32,399,997 / 3
        Check.due(32, "beyond an int in thousandths", x.change(0), NO_INT);
        Check.due(33, "but told as parts", x.part(0, false), -10799999);
        Check.due(33, "but told as parts", x.part(0, true), 1);
        Check.due(34, "three squares", x.cost(), 3L * 10799999L * 10799999L * 1000);
        x.strike(2, 0, true);
        Check.read(x, 2, 8640001);
        x.adjust(1, 0);
        Check.due(33, "28,079,999 by 3", x.part(1, false), -28079999);
        Check.due(33, "28,079,999 by 3", x.part(1, true), 3);
        x.round(0, 3, -1, 0, 0, 0);
        Check.read(x, 3, 2160000 + 2147483);
        x.strike(0, 0, true);
        Check.read(x, 0, 12960000 - 2160000);
        x.adjust(0, 1);
        Check.due(32, "-2,147,483 / 2 in thousandths", x.change(3), -1073741500);
        GreatArc y = Check.room(7);
        for (int i = 1; i <= 6; i++) {
            y.angle(0, i, i % 6 + 1);
            Check.read(y, i - 1, 12959999);
        }
        y.round(0, 1, 2, 3, 4, 5);
        Check.rule(y, "weight 9");
        y.adjust(0, 1);
        Check.due(34, "9 * 64,799,994^2 / 6 thousandths", y.cost(), 9000L * 10799999L * 10799999L * 6);
        Check.due(33, "a sixth", y.part(5, false), -10799999);
        int[] others = {0, 2, 3, 4, 5, 6};
        for (int i = 0; i < 6; i++) {
            y.angle(1, others[i], others[(i + 1) % 6]);
            Check.read(y, 6 + i, 12959999);
        }
        y.round(6, 7, 8, 9, 10, 11);
        Check.told(31, y, "two rounds", y.adjust(0, 3), 12);
        Check.due(34, "beyond a long", y.cost(), Long.MIN_VALUE);
        Check.due(33, "still told", y.part(11, false), -10799999);
        // a sum of 9.8 by 10^18 is beyond a long by its highest bit alone
        for (int i = 0; i < 6; i++) {
            y.strike(6 + i, 0, true);
            Check.read(y, 6 + i, 10160000);
        }
        Check.told(31, y, "two rounds", y.adjust(0, 3), 12);
        Check.due(34, "beyond a long", y.cost(), Long.MIN_VALUE);
        Check.told(31, y, "the second round", y.adjust(0, 2), 6);
        Check.due(34, "9 * 48,000,000^2 / 6", y.cost(), 1500L * 48000000 * 48000000);
        adjustParts();
    }

    /** Weights of 1, 5 and 8 share a miss as 40 : 8 : 5. */
    private static void adjustParts() {
        GreatArc x = Check.room(4);
        int[] means = {12660000, 12650000, 12650000};
        int[] times = {1, 5, 8};
        for (int i = 0; i < 3; i++) {
            x.angle(0, i + 1, (i + 1) % 3 + 1);
            for (int k = 0; k < times[i]; k++) {
                Check.read(x, i, means[i]);
            }
        }
        x.round(0, 1, 2, -1, 0, 0);
        Check.rule(x, "weight count");
        Check.told(31, x, "a miss of 25,000,000", x.adjust(0, 1), 3);
        Check.due(33, "1,000,000,000 by 53", x.part(0, false), NO_INT);
        Check.due(33, "1,000,000,000 by 53", x.part(0, true), NO_INT);
        Check.due(33, "200,000,000 by 53", x.part(1, false), -200000000);
        Check.due(33, "125,000,000 by 53", x.part(2, true), 53);
        x.strike(0, 0, true);
        Check.read(x, 0, 12660000 - 1);
        // two readings seen: the weight is 2 now, the shares 20 : 8 : 5
        x.adjust(0, 1);
        Check.due(33, "20 * 24,999,999 by 33", x.part(0, false), -20 * (24999999 / 3));
        Check.due(33, "20 * 24,999,999 by 33", x.part(0, true), 11);
    }

    /** Six rounds over pairs of like angles, with all weights, against the fractions of Plain. */
    private static void adjustWideMatrix() {
        int[][] picks = {{0, 2, 4, 6, 8, 10}, {1, 2, 4, 6, 8, 10}, {0, 3, 4, 6, 8, 10}, {0, 2, 5, 6, 8, 10},
            {0, 2, 4, 7, 8, 10}, {1, 3, 5, 7, 9, 11}};
        for (int turn = 0; turn < 40; turn++) {
            GreatArc x = Check.room(7);
            Plain y = new Plain();
            for (int m = 0; m < 7; m++) {
                y.mark(m * 32);
            }
            y.party(true);
            for (int i = 0; i < 12; i++) {
                int from = i / 2 + 1;
                int to = from % 6 + 1;
                int whole = turn == 0 ? 12959999 : turn == 1 ? 0 : (int) ((long) (i + 3) * 7919 * 104729 * turn % 12960000);
                x.angle(0, from, to);
                y.angle(0, from, to);
                for (int k = 0; k <= (i + turn) % 9; k++) {
                    x.read(i, Check.bits(whole), 0, 0);
                    y.read(i, Check.bits(whole), 0, 0);
                }
            }
            for (int[] p : picks) {
                x.round(p[0], p[1], p[2], p[3], p[4], p[5]);
                y.round(p[0], p[1], p[2], p[3], p[4], p[5]);
            }
            String text = turn % 3 == 0 ? "weight count" : turn % 3 == 1 ? "weight 10-count" : "weight 7 if count>4";
            Check.rule(x, text);
            feed(y, text);
            y.rule(text.length(), 0, 9999);
            int bits = turn % 4 == 3 ? 1 + turn : 63;
            Check.due(31, "adjust of turn " + turn, x.adjust(0, bits), y.adjust(0, bits));
            Check.due(31, "trouble", x.trouble(), y.trouble());
            for (int i = 0; i < 12; i++) {
                Check.due(32, "change of turn " + turn, x.change(i), y.change(i));
                Check.due(33, "numerator of turn " + turn, x.part(i, false), y.part(i, false));
                Check.due(33, "denominator of turn " + turn, x.part(i, true), y.part(i, true));
            }
            Check.due(34, "cost of turn " + turn, x.cost(), y.cost());
        }
    }

    private static void feed(Plain y, String text) {
        byte[] b = java.util.Arrays.copyOf((text + " ".repeat(20)).getBytes(), 20);
        java.nio.IntBuffer five = java.nio.ByteBuffer.wrap(b).asIntBuffer();
        y.feed(five.get(0), five.get(1), five.get(2), five.get(3), five.get(4));
    }
}
