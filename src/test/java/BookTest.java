/** Promises 8 to 15: parties, angles, readings. */
public final class BookTest {
    public static void main(String[] args) {
        parties();
        angles();
        readings();
        middleAndMean();
        strikes();
        strikesByRule();
        known();
        Check.end();
    }

    private static void parties() {
        GreatArc x = new GreatArc();
        for (int p = 0; p < 8; p++) {
            Check.told(8, x, "party", x.party(p % 2 == 0), p);
        }
        Check.refused(8, x, "a ninth", x.party(true), 3);
        Check.due(8, "count(7)", x.count(7), 8);
    }

    private static void angles() {
        GreatArc x = Check.room(3);
        Check.told(9, x, "angle", x.angle(0, 1, 2), 0);
        Check.told(9, x, "the same once more", x.angle(0, 1, 2), 1);
        Check.refused(9, x, "at is no mark", x.angle(3, 1, 2), 1);
        Check.refused(9, x, "from is no mark", x.angle(0, -1, 2), 1);
        Check.refused(9, x, "to is no mark, others alike", x.angle(0, 0, 9), 1);
        Check.refused(9, x, "at is from", x.angle(0, 0, 2), 5);
        Check.refused(9, x, "at is to", x.angle(0, 1, 0), 5);
        Check.refused(9, x, "from is to", x.angle(0, 1, 1), 5);
        for (int a = 2; a < 80; a++) {
            Check.told(9, x, "angle", x.angle(a % 3, (a + 1) % 3, (a + 2) % 3), a);
        }
        Check.refused(9, x, "an 81st", x.angle(0, 1, 2), 3);
        Check.refused(9, x, "alike and no room", x.angle(0, 1, 1), 5);
        Check.due(9, "angleOf(4, 10)", x.angleOf(4, 10), 1);
        Check.due(9, "count(1)", x.count(1), 80);
    }

    private static void readings() {
        GreatArc x = Check.room(3);
        x.angle(0, 1, 2);
        x.angle(0, 2, 1);
        Check.refused(10, x, "no angle", x.read(2, Check.bits(1), 0, 0), 1);
        Check.refused(10, x, "no party", x.read(0, Check.bits(1), 0, 3), 1);
        Check.refused(10, x, "no angle, no hour", x.read(-1, Check.bits(1), 24, 0), 1);
        Check.refused(10, x, "hour", x.read(0, Check.bits(1), -1, 0), 2);
        Check.refused(10, x, "no number at no hour", x.read(0, Check.bits(Float.NaN), 24, 0), 2);
        float[] out = {-1f, -1.5f, 12960000f, 16777216f, 1e30f, -1e30f, Float.POSITIVE_INFINITY, Float.NEGATIVE_INFINITY};
        for (float f : out) {
            Check.refused(10, x, "out of bounds " + f, x.read(0, Check.bits(f), 0, 0), 2);
        }
        float[] in = {0f, -0f, -0.99f, 0.99f, 1f, 1.99f, 2.5f, 100.75f, 8388608f, 8388607.5f, 12959999f, Float.MIN_VALUE};
        int[] cut = {0, 0, 0, 0, 1, 1, 2, 100, 8388608, 8388607, 12959999, 0};
        for (int i = 0; i < in.length; i++) {
            Check.told(10, x, "read " + in[i], x.read(0, Check.bits(in[i]), i, i % 3), i);
            Check.due(11, "the whole of " + in[i], x.reading(i, 1), cut[i]);
            Check.due(11, "hour", x.reading(i, 2), i);
            Check.due(11, "party", x.reading(i, 3), i % 3);
        }
        int[] blind = {0x7FC00000, 0x7F800001, 0xFFC00000, 0xFF800001, 0x7FFFFFFF, -1};
        for (int i = 0; i < blind.length; i++) {
            Check.told(10, x, "no number", x.read(0, blind[i], 23, 0), 12 + i);
            Check.due(11, "not seen", x.reading(12 + i, 1), -2);
            Check.due(11, "struck by none", x.reading(12 + i, 6), -2);
            Check.due(11, "not kept", x.reading(12 + i, 7), 0);
            Check.due(11, "off of one not seen", x.reading(12 + i, 8), -2);
        }
        x.pass(7);
        Check.told(10, x, "a 19th", x.read(0, 0, 0, 0), 18);
        Check.told(10, x, "a 20th", x.read(0, 0, 0, 0), 19);
        Check.refused(10, x, "a 21st", x.read(0, 0, 0, 0), 3);
        Check.told(10, x, "of another angle", x.read(1, 0, 0, 0), 20);
        Check.due(11, "angle", x.reading(20, 0), 1);
        Check.due(11, "day", x.reading(19, 4), 7);
        Check.due(11, "day", x.reading(17, 4), 0);
        Check.due(11, "no such", x.reading(21, 0), -1);
        Check.due(11, "no such", x.reading(-1, 0), -1);
        Check.due(11, "what 9", x.reading(0, 9), -1);
        Check.due(11, "what -1", x.reading(0, -1), -1);
        Check.due(13, "readings", x.angleOf(0, 6), 20);
        Check.due(13, "seen", x.angleOf(0, 5), 14);
        Check.due(10, "count(2)", x.count(2), 21);
    }

    private static void middleAndMean() {
        GreatArc x = Check.room(3);
        x.angle(2, 0, 1);
        for (int what = 0; what <= 3; what++) {
            Check.due(13, "without kept ones " + what, x.angleOf(0, what), -2);
        }
        Check.due(13, "kept", x.angleOf(0, 4), 0);
        Check.due(13, "middle without seen ones", x.angleOf(0, 7), -2);
        Check.due(13, "weight", x.angleOf(0, 8), 1);
        Check.due(13, "again without kept ones", x.angleOf(0, 9), 1);
        int[] told = {50, 10, 41, 30, 20};
        int[] middle = {50, 10, 41, 30, 30};
        int[] mean = {50, 30, 33, 32, 30};
        for (int i = 0; i < told.length; i++) {
            Check.read(x, 0, told[i]);
            Check.due(13, "middle of " + (i + 1), x.angleOf(0, 7), middle[i]);
            Check.due(13, "mean of " + (i + 1), x.angleOf(0, 0), mean[i]);
        }
        Check.due(13, "spread", x.angleOf(0, 1), 40);
        Check.due(13, "least", x.angleOf(0, 2), 10);
        Check.due(13, "most", x.angleOf(0, 3), 50);
        Check.due(13, "kept", x.angleOf(0, 4), 5);
        Check.due(13, "again", x.angleOf(0, 9), 0);
        Check.due(13, "at", x.angleOf(0, 10), 2);
        Check.due(13, "what 11", x.angleOf(0, 11), -1);
        Check.due(13, "what -1", x.angleOf(0, -1), -1);
        Check.due(13, "no such", x.angleOf(1, 0), -1);
        Check.due(11, "below the middle", x.reading(1, 8), 20);
        Check.due(11, "above the middle", x.reading(0, 8), 20);
    }

    private static void strikes() {
        GreatArc x = Check.room(3);
        x.angle(0, 1, 2);
        Check.read(x, 0, 10);
        Check.read(x, 0, 20);
        Check.read(x, 0, 60);
        x.read(0, Check.bits(Float.NaN), 1, 1);
        Check.refused(12, x, "no reading", x.strike(4, 0, true), 1);
        Check.refused(12, x, "no party", x.strike(0, 3, true), 1);
        Check.refused(12, x, "no chief", x.strike(0, 1, true), 5);
        Check.refused(12, x, "not seen", x.strike(3, 0, true), 5);
        Check.refused(12, x, "not struck", x.strike(0, 0, false), 5);
        Check.told(12, x, "struck", x.strike(2, 0, true));
        Check.refused(12, x, "struck already", x.strike(2, 2, true), 5);
        Check.due(11, "by hand", x.reading(2, 5), 1);
        Check.due(11, "not kept", x.reading(2, 7), 0);
        Check.due(13, "middle still counts it", x.angleOf(0, 7), 20);
        Check.due(13, "mean", x.angleOf(0, 0), 15);
        Check.due(13, "most", x.angleOf(0, 3), 20);
        Check.due(15, "led 0", x.led(0, 0), 0);
        Check.due(15, "led 1", x.led(0, 1), 1);
        Check.due(15, "led 2", Check.throwsNoSuch(x, 0, 2), true);
        Check.due(15, "led -1", Check.throwsNoSuch(x, 0, -1), true);
        Check.due(15, "led of no angle", Check.throwsNoSuch(x, 1, 0), true);
        Check.due(15, "led of no angle", Check.throwsNoSuch(x, -1, 0), true);
        Check.told(12, x, "taken back by another chief", x.strike(2, 2, false));
        Check.due(11, "not by hand", x.reading(2, 5), 0);
        Check.due(13, "mean", x.angleOf(0, 0), 30);
        x.strike(0, 0, true);
        Check.due(15, "led 0 is the next", x.led(0, 0), 1);
        Check.due(15, "led 1", x.led(0, 1), 2);
    }

    private static void strikesByRule() {
        GreatArc x = Check.room(3);
        x.angle(1, 0, 2);
        x.read(0, Check.bits(100), 5, 0);
        x.read(0, Check.bits(110), 6, 1);
        x.read(0, Check.bits(150), 7, 2);
        x.read(0, Check.bits(Float.NaN), 7, 2);
        Check.rule(x, "strike if party = 1", 1, 5);
        Check.rule(x, "strike if off > 39", 0, 0);
        Check.rule(x, "strike if hour > 6 and count = 3 and at = 1");
        Check.rule(x, "strike if kept > 0 or spread > 0");
        Check.due(11, "by rule 1, the first that strikes it", x.reading(2, 6), 1);
        Check.due(11, "by none", x.reading(0, 6), -2);
        Check.due(11, "rule 0 is not in force on its day", x.reading(1, 6), -2);
        Check.due(11, "one not seen is not struck", x.reading(3, 6), -2);
        Check.due(13, "mean", x.angleOf(0, 0), 105);
        Check.due(12, "by hand too", x.strike(2, 0, true), true);
        x.force(1, 1, 1);
        Check.due(11, "by rule 2 now", x.reading(2, 6), 2);
        x.force(2, 1, 9999);
        Check.due(11, "by none now", x.reading(2, 6), -2);
        Check.due(11, "but by hand", x.reading(2, 7), 0);
        x.pass(5);
        x.read(0, Check.bits(110), 6, 1);
        Check.due(11, "the last day in force", x.reading(4, 6), 0);
        x.pass(1);
        x.read(0, Check.bits(110), 6, 1);
        Check.due(11, "the day behind it", x.reading(5, 6), -2);
        Check.due(11, "rules of its day count still", x.reading(4, 6), 0);
    }

    private static void known() {
        GreatArc x = Check.room(3);
        x.angle(0, 1, 2);
        Check.read(x, 0, 100);
        Check.read(x, 0, 130);
        Check.rule(x, "strike if off > 25 and count < 4", 0, 10);
        Check.due(14, "130 is 30 from the middle 100", x.known(0, 0), 100);
        x.pass(2);
        Check.read(x, 0, 130);
        x.strike(2, 0, true);
        x.pass(1);
        x.strike(2, 0, false);
        x.strike(0, 0, true);
        x.strike(0, 0, false);
        // three now, the middle is 130, and 100 is off by 30
        Check.due(14, "on day 0", x.known(0, 0), 100);
        Check.due(14, "on day 1", x.known(0, 1), 100);
        Check.due(14, "on day 2: 130, and 130 struck by hand", x.known(0, 2), 130);
        Check.due(14, "on day 3", x.known(0, 3), 130);
        Check.read(x, 0, 100);
        Check.due(14, "four: nothing is struck", x.known(0, 3), 115);
        Check.due(13, "mean today", x.angleOf(0, 0), 115);
        Check.due(14, "day 2 as before", x.known(0, 2), 130);
        Check.due(13, "mean today as before", x.angleOf(0, 0), 115);
        Check.due(11, "kept today as before", x.reading(0, 7), 1);
        Check.due(14, "tomorrow", x.known(0, 4), -1);
        Check.due(14, "day -1", x.known(0, -1), -1);
        Check.due(14, "no such angle", x.known(1, 0), -1);
        x.angle(0, 2, 1);
        Check.read(x, 1, 7);
        Check.due(14, "ahead of its first reading", x.known(1, 2), -2);
        Check.due(14, "on its day", x.known(1, 3), 7);
        x.strike(4, 0, true);
        Check.due(14, "struck", x.known(1, 3), -2);
    }
}
