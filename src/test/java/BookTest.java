/** Promises 8 to 15 by their sentences: parties, angles, readings, and what was known on a day. */
public final class BookTest {
    private static final int MOST = 12959999;

    public static void main(String[] args) {
        parties();
        angles();
        bits();
        room();
        numbers();
        middle();
        struckAndKept();
        means();
        ofReadings();
        ofAngles();
        byHand();
        known();
        knownByHand();
        led();
        Check.end();
    }

    /** Three marks, three parties of which 1 is no chief, and so many angles at mark 2. */
    private static GreatArc withAngles(int angles) {
        GreatArc x = Check.room(3);
        for (int a = 0; a < angles; a++) {
            x.angle(2, 0, 1);
        }
        return x;
    }

    private static int unseen(GreatArc x, int angle) {
        return x.read(angle, 0x7FC00000, 3, 1);
    }

    private static void parties() {
        Check.says(8, "PARTIES 8,");
        GreatArc x = new GreatArc();
        for (int p = 0; p < 8; p++) {
            Check.told(x, "a party", x.party(p == 7), p);
        }
        Check.refused(x, "a ninth", x.party(true), 3);
        Check.due("PARTIES", x.count(7), 8);
        Check.says(8, "A PARTY: its number. NONE (3).");
        for (int m = 0; m < 3; m++) {
            x.mark(m);
        }
        x.angle(0, 1, 2);
        Check.refused(x, "the ninth isn't there", x.read(0, 0, 0, 8), 1);
        Check.told(x, "the eighth is", x.read(0, 0, 0, 7), 0);
        Check.refused(x, "the first is no chief", x.strike(0, 0, true), 5);
        Check.told(x, "the eighth is one", x.strike(0, 7, true));
        GreatArc y = new GreatArc();
        y.mark(-1);
        Check.told(y, "behind a refused call", y.party(false), 0);
    }

    private static void angles() {
        Check.says(9, "ANGLES 80,");
        GreatArc x = withAngles(79);
        Check.told(x, "the 80th", x.angle(1, 2, 0), 79);
        Check.refused(x, "an 81st", x.angle(1, 2, 0), 3);
        Check.due("ANGLES", x.count(1), 80);
        Check.refused(x, "no reading of it", x.read(80, 0, 0, 0), 1);
        Check.told(x, "one of the 80th", x.read(79, 0, 0, 0), 0);
        Check.due("its mark", x.angleOf(79, 10), 1);
        Check.says(9, "III. AN ANGLE at a MARK from a MARK to a third one.");
        GreatArc y = Check.room(4);
        Check.told(y, "at 3 from 2 to 0", y.angle(3, 2, 0), 0);
        Check.told(y, "at 3 from 0 to 2", y.angle(3, 0, 2), 1);
        Check.due("at", y.angleOf(1, 10), 3);
        y.star(3, 2, 500, 0);
        Check.read(y, 0, 100);
        Check.due("north to 0 is that to 2 and the angle", y.north(3, 0), 600);
        Check.says(9, "An ANGLE at a MARK from one to another (all unlike): its number. NONE: 1; 5; 3.");
        int[][] bad = {{4, 0, 1, 1}, {0, 4, 1, 1}, {0, 1, 4, 1}, {-1, 0, 1, 1}, {0, -1, 1, 1}, {0, 1, -1, 1},
            {1, 1, 2, 5}, {1, 2, 1, 5}, {2, 1, 1, 5}, {3, 3, 3, 5}};
        for (int[] b : bad) {
            Check.refused(y, "angle " + b[0] + " " + b[1] + " " + b[2], y.angle(b[0], b[1], b[2]), b[3]);
            Check.due("ANGLES", y.count(1), 2);
        }
    }

    /** A reading by these bits: told, and cut to such a whole. */
    private static void cut(int bits, int whole) {
        GreatArc x = withAngles(1);
        Check.told(x, "bits " + Integer.toHexString(bits), x.read(0, bits, 3, 1), 0);
        Check.due("its whole", x.reading(0, 1), whole);
        Check.due("SEEN", x.angleOf(0, 5), whole == -2 ? 0 : 1);
        Check.due("READINGS", x.angleOf(0, 6), 1);
    }

    private static void out(int bits) {
        GreatArc x = withAngles(1);
        Check.refused(x, "bits " + Integer.toHexString(bits), x.read(0, bits, 3, 1), 2);
        Check.due("READINGS", x.count(2), 0);
        Check.due("none of the angle", x.angleOf(0, 6), 0);
    }

    private static void bits() {
        Check.says(10, "One that is no number was not SEEN; else it is cut to a whole (toward 0), 0 .. 12,959,999.");
        int[] noNumbers = {0x7F800001, 0x7FC00000, 0x7FFFFFFF, 0xFF800001, 0xFFC00000, 0xFFFFFFFF};
        for (int bits : noNumbers) {
            cut(bits, -2);
        }
        cut(0, 0);
        cut(1, 0);
        cut(0x007FFFFF, 0);
        cut(0x00800000, 0);
        cut(0x80000000, 0);
        cut(0x80000001, 0);
        cut(Float.floatToRawIntBits(-0.5f), 0);
        cut(0xBF7FFFFF, 0);
        cut(0x3F7FFFFF, 0);
        cut(0x3F800000, 1);
        cut(0x3FFFFFFF, 1);
        cut(0x40000000, 2);
        cut(Float.floatToRawIntBits(2.99f), 2);
        cut(Float.floatToRawIntBits(4194303.5f), 4194303);
        cut(Float.floatToRawIntBits(8388607.5f), 8388607);
        cut(Float.floatToRawIntBits(8388608f), 8388608);
        cut(Float.floatToRawIntBits(8388609f), 8388609);
        cut(Float.floatToRawIntBits(12959998f), MOST - 1);
        cut(Float.floatToRawIntBits(12959999f), MOST);
        out(Float.floatToRawIntBits(12960000f));
        out(Float.floatToRawIntBits(16777215f));
        out(Float.floatToRawIntBits(16777216f));
        out(0x7F7FFFFF);
        out(0x7F800000);
        out(0xBF800000);
        out(Float.floatToRawIntBits(-12959999f));
        out(0xFF7FFFFF);
        out(0xFF800000);
    }

    private static void room() {
        Check.says(10, "READINGS 1,200 (20 an ANGLE),");
        GreatArc x = withAngles(2);
        for (int r = 0; r < 20; r++) {
            Check.told(x, "a reading", r % 3 == 2 ? unseen(x, 1) : Check.read(x, 1, r), r);
        }
        Check.refused(x, "a 21st", Check.read(x, 1, 5), 3);
        Check.refused(x, "a 21st, not seen", unseen(x, 1), 3);
        Check.due("READINGS of it", x.angleOf(1, 6), 20);
        Check.due("READINGS", x.count(2), 20);
        Check.told(x, "of another angle", Check.read(x, 0, 5), 20);
        // 1,200 lie behind the 512th call; up to it all that an angle has room for are told
        GreatArc y = withAngles(80);
        for (int r = 0; r < 420; r++) {
            Check.due("a reading", Check.read(y, r % 80, r), r);
        }
        for (int r = 420; r < 1700; r++) {
            Check.read(y, r % 80, r);
        }
        Check.due("and what is free ends, too", y.count(1), 80);
        Check.says(10, "A READING TODAY, by the bits of a float: its number. NONE: 1 (ANGLE, PARTY); "
            + "2 (HOUR, a number out of bounds); 3.");
        GreatArc z = withAngles(2);
        int five = Check.bits(5);
        int[][] bad = {{2, five, 3, 1, 1}, {-1, five, 3, 1, 1}, {0, five, 3, 3, 1}, {0, five, 3, -1, 1}, {0, five, 24, 1, 2},
            {0, five, -1, 1, 2}, {0, Check.bits(-1), 3, 1, 2}, {0, Check.bits(MOST + 1), 3, 1, 2}, {0, 0x7FC00000, 24, 1, 2}};
        for (int[] b : bad) {
            Check.refused(z, "read " + b[0] + " at " + b[2] + " by " + b[3], z.read(b[0], b[1], b[2], b[3]), b[4]);
            Check.due("READINGS", z.count(2), 0);
        }
        Check.told(z, "the last hour and party", z.read(1, five, 23, 2), 0);
        Check.told(z, "the first ones", z.read(0, five, 0, 0), 1);
    }

    private static void numbers() {
        Check.says(10, "A READING of it: a float (told by its bits), the HOUR, a PARTY, TODAY.");
        GreatArc x = withAngles(3);
        x.pass(7);
        x.read(2, Check.bits(50), 23, 2);
        x.pass(1000);
        x.read(1, Check.bits(60), 0, 1);
        int[][] want = {{2, 50, 23, 2, 7}, {1, 60, 0, 1, 1007}};
        for (int r = 0; r < 2; r++) {
            for (int what = 0; what <= 4; what++) {
                Check.due("reading(" + r + ", " + what + ")", x.reading(r, what), want[r][what]);
            }
        }
    }

    private static void middle() {
        Check.says(11, "The MIDDLE of an ANGLE: of its SEEN ones in order the one ahead of which half of them, downwards "
            + "(of an even number the half less one), stand.");
        // told from the greatest down: behind n of them the wholes are 100 (21 - n) .. 2,000
        GreatArc x = withAngles(1);
        for (int n = 1; n <= 20; n++) {
            Check.read(x, 0, 100 * (21 - n));
            int ahead = n % 2 == 1 ? n / 2 : n / 2 - 1;
            Check.due("of " + n, x.angleOf(0, 7), 100 * (21 - n + ahead));
        }
        GreatArc y = withAngles(1);
        int[] told = {500, 100, 300, 300, 400, 0};
        int[] want = {500, 100, 300, 300, 300, 300};
        for (int i = 0; i < told.length; i++) {
            unseen(y, 0);
            Check.read(y, 0, told[i]);
            Check.due("with those not seen left out", y.angleOf(0, 7), want[i]);
        }
        Check.due("how far below it", y.reading(11, 8), 300);
        Check.due("how far above it", y.reading(1, 8), 200);
        Check.due("at it", y.reading(5, 8), 0);
        y.strike(5, 0, true);
        y.strike(11, 0, true);
        Check.due("with those struck", y.angleOf(0, 7), 300);
    }

    private static void struckAndKept() {
        Check.says(11, "STRUCK: by hand, or by RULES of strike in force on its DAY.");
        GreatArc x = withAngles(1);
        Check.rule(x, "strike if hour=12", 2, 3);
        for (int day = 0; day < 6; day++) {
            x.read(0, Check.bits(100 + day), 12, 0);
            x.pass(1);
        }
        for (int r = 0; r < 6; r++) {
            boolean struck = r == 2 || r == 3;
            Check.due("by the rule, of day " + r, x.reading(r, 6), struck ? 0 : -2);
            Check.due("kept, of day " + r, x.reading(r, 7), struck ? 0 : 1);
            Check.due("by hand, of day " + r, x.reading(r, 5), 0);
        }
        x.strike(0, 0, true);
        x.strike(2, 0, true);
        Check.due("by hand alone", x.reading(0, 6), -2);
        Check.due("by hand alone", x.reading(0, 7), 0);
        Check.due("by both", x.reading(2, 6) + 10 * x.reading(2, 5), 10);
        x.strike(2, 0, false);
        Check.due("by the rule still", x.reading(2, 7), 0);
        Check.says(11, "KEPT: SEEN and not STRUCK.");
        unseen(x, 0);
        Check.due("not seen", x.reading(6, 7), 0);
        Check.due("KEPT of 7", x.angleOf(0, 4), 3);
        x.strike(0, 0, false);
        Check.due("KEPT of 7", x.angleOf(0, 4), 4);
    }

    private static void angle(GreatArc x, int angle, int... want) {
        for (int what = 0; what < want.length; what++) {
            Check.due("angleOf(" + angle + ", " + what + ")", x.angleOf(angle, what), want[what]);
        }
    }

    private static void means() {
        Check.says(13, "MEAN: the sum of KEPT by how many, downwards; SPREAD: the most less the least. LEAST and MOST of it "
            + "likewise. (Without KEPT ones: none.)");
        GreatArc x = withAngles(3);
        // each angle counts for itself, though they are read in turns
        int[][] told = {{7, 500000, MOST}, {8, 500001, MOST}, {8, 499997, MOST - 1}};
        for (int[] row : told) {
            for (int a = 0; a < 3; a++) {
                Check.read(x, a, row[a]);
            }
        }
        angle(x, 0, 7, 1, 7, 8, 3, 3, 3, 8);
        angle(x, 1, 499999, 4, 499997, 500001, 3, 3, 3, 500000);
        angle(x, 2, MOST - 1, 1, MOST - 1, MOST, 3, 3, 3, MOST);
        x.strike(0, 0, true);
        x.strike(7, 0, true);
        angle(x, 0, 8, 0, 8, 8, 2, 3, 3, 8);
        angle(x, 1, 500000, 1, 500000, 500001, 2, 3, 3, 500000);
        x.strike(3, 0, true);
        x.strike(6, 0, true);
        angle(x, 0, -2, -2, -2, -2, 0, 3, 3, 8);
        for (int r = 0; r < 17; r++) {
            Check.read(x, 2, MOST);
        }
        angle(x, 2, MOST - 1, 1, MOST - 1, MOST, 20, 20, 20, MOST);
        GreatArc y = withAngles(1);
        Check.read(y, 0, 0);
        angle(y, 0, 0, 0, 0, 0, 1, 1, 1, 0);
    }

    private static void ofReadings() {
        Check.says(11, "Of a READING what 0 the ANGLE, 1 the whole (-2: not SEEN), 2 HOUR, 3 PARTY, 4 DAY, "
            + "5 whether STRUCK by hand (1), 6 the first RULE of strike that strikes it (-2), 7 whether KEPT (1), "
            + "8 how far it is from the MIDDLE (-2: not SEEN). NONE.");
        GreatArc x = withAngles(2);
        Check.rule(x, "strike if party=1", 5, 9);
        Check.rule(x, "strike if off>5");
        Check.rule(x, "strike if off>3");
        x.pass(3);
        x.read(1, Check.bits(100), 4, 0);
        x.read(1, Check.bits(104), 5, 1);
        x.read(1, Check.bits(94), 6, 2);
        unseen(x, 1);
        x.strike(1, 0, true);
        int[][] want = {{1, 100, 4, 0, 3, 0, -2, 1, 0}, {1, 104, 5, 1, 3, 1, 2, 0, 4}, {1, 94, 6, 2, 3, 0, 1, 0, 6},
            {1, -2, 3, 1, 3, 0, -2, 0, -2}};
        for (int r = 0; r < 4; r++) {
            for (int what = 0; what < 9; what++) {
                Check.due("reading(" + r + ", " + what + ")", x.reading(r, what), want[r][what]);
            }
            Check.due("what 9", x.reading(r, 9), -1);
            Check.due("what -1", x.reading(r, -1), -1);
        }
        int[] none = {-1, 4, Integer.MIN_VALUE, Integer.MAX_VALUE};
        for (int r : none) {
            Check.due("no reading " + r, x.reading(r, 0), -1);
        }
        Check.due("far what", x.reading(0, Integer.MIN_VALUE), -1);
        Check.due("far what", x.reading(0, Integer.MAX_VALUE), -1);
    }

    private static void ofAngles() {
        Check.says(13, "Of an ANGLE what 0 MEAN, 1 SPREAD, 2 LEAST, 3 MOST, 4 how many are KEPT, 5 SEEN, 6 READINGS, 7 MIDDLE, "
            + "8 WEIGHT, 9 whether AGAIN (1), 10 its MARK; -2 of 0 .. 3 without KEPT ones, of 7 without SEEN ones. NONE.");
        GreatArc x = withAngles(3);
        x.angle(1, 0, 2);
        angle(x, 3, -2, -2, -2, -2, 0, 0, 0, -2, 1, 1, 1, -1);
        unseen(x, 3);
        angle(x, 3, -2, -2, -2, -2, 0, 0, 1, -2, 1, 1, 1, -1);
        int r = Check.read(x, 3, 70);
        angle(x, 3, 70, 0, 70, 70, 1, 1, 2, 70, 1, 0, 1, -1);
        x.strike(r, 2, true);
        angle(x, 3, -2, -2, -2, -2, 0, 1, 2, 70, 1, 1, 1, -1);
        Check.read(x, 3, 80);
        Check.read(x, 3, 90);
        Check.rule(x, "weight 6 if kept=2 and count=3 and spread=10 and at=1");
        angle(x, 3, 85, 10, 80, 90, 2, 3, 4, 80, 6, 0, 1, -1);
        Check.rule(x, "again if kept=2 and count=3 and spread=10 and at=1");
        angle(x, 3, 85, 10, 80, 90, 2, 3, 4, 80, 6, 1, 1, -1);
        angle(x, 2, -2, -2, -2, -2, 0, 0, 0, -2, 1, 1, 2, -1);
        int[] far = {-1, 4, Integer.MIN_VALUE, Integer.MAX_VALUE};
        for (int f : far) {
            Check.due("no angle " + f, x.angleOf(f, 10), -1);
        }
        Check.due("far what", x.angleOf(0, Integer.MIN_VALUE), -1);
        Check.due("far what", x.angleOf(0, Integer.MAX_VALUE), -1);
        Check.due("what -1", x.angleOf(0, -1), -1);
    }

    private static void byHand() {
        Check.says(12, "By hand: a PARTY that is a CHIEF strikes a READING, or takes that back.");
        GreatArc x = withAngles(1);
        Check.read(x, 0, 10);
        Check.read(x, 0, 20);
        unseen(x, 0);
        for (int i = 0; i < 3; i++) {
            Check.told(x, "struck", x.strike(1, 0, true));
            Check.due("MEAN", x.angleOf(0, 0), 10);
            Check.told(x, "taken back by another chief", x.strike(1, 2, false));
            Check.due("MEAN", x.angleOf(0, 0), 15);
        }
        Check.says(12, "A CHIEF strikes a READING by hand, or takes it back: true; false: 1; 5 (no CHIEF, not SEEN, it is so "
            + "already).");
        int[][] bad = {{3, 0, 1}, {-1, 0, 1}, {0, 3, 1}, {0, -1, 1}, {0, 1, 5}, {2, 0, 5}};
        for (int[] b : bad) {
            Check.refused(x, "strike " + b[0] + " by " + b[1], x.strike(b[0], b[1], true), b[2]);
            Check.due("KEPT", x.angleOf(0, 4), 2);
        }
        Check.refused(x, "it is not struck", x.strike(0, 0, false), 5);
        x.strike(0, 0, true);
        Check.refused(x, "it is struck", x.strike(0, 0, true), 5);
        Check.refused(x, "it is struck", x.strike(0, 2, true), 5);
        Check.refused(x, "one not seen is not taken back", x.strike(2, 0, false), 5);
        Check.refused(x, "no chief takes it back", x.strike(0, 1, false), 5);
        Check.due("KEPT", x.angleOf(0, 4), 1);
        Check.rule(x, "strike if off>5");
        Check.due("struck by the rule", x.reading(1, 7), 0);
        Check.told(x, "and by hand, too", x.strike(1, 0, true));
        Check.due("by hand", x.reading(1, 5), 1);
    }

    private static void known() {
        Check.says(14, "X. AS KNOWN on a DAY: READINGS of DAYS up to it, struck by hand as told up to it; RULES in force on each "
            + "READING's DAY, as told up to now.");
        GreatArc x = withAngles(2);
        for (int day = 0; day < 4; day++) {
            x.read(1, Check.bits(100 + 10 * day), day, 0);
            x.pass(1);
        }
        int[] means = {100, 105, 110, 115, 115};
        for (int day = 0; day <= 4; day++) {
            Check.due("readings up to " + day, x.known(1, day), means[day]);
        }
        x.strike(1, 0, true);
        Check.due("not struck on 3", x.known(1, 3), 115);
        Check.due("struck on 4: 100, 120, 130", x.known(1, 4), 116);
        // a rule told now of the days 2 and 3
        Check.rule(x, "strike if hour>1", 2, 2);
        Check.due("as told up to now: 100, 110", x.known(1, 2), 105);
        Check.due("100, 110, 130", x.known(1, 3), 113);
        x.force(0, 3, 3);
        Check.due("100, 110, 120", x.known(1, 2), 110);
        Check.due("without the last", x.known(1, 3), 110);
        x.force(0, 8, 9);
        // the middle and the count are of those known: of 100 and 110 it is 100, of 100 .. 120 it is 110
        Check.rule(x, "strike if off=10 and count=2");
        Check.due("110 is off by 10", x.known(1, 1), 100);
        Check.due("count is 3", x.known(1, 2), 110);
        Check.says(14, "MEAN AS KNOWN on a DAY (0 .. TODAY); -2 without KEPT ones; NONE.");
        Check.due("TODAY", x.known(1, 4), 116);
        Check.due("tomorrow", x.known(1, 5), -1);
        Check.due("day -1", x.known(1, -1), -1);
        Check.due("far days", x.known(1, Integer.MIN_VALUE), -1);
        Check.due("far days", x.known(1, Integer.MAX_VALUE), -1);
        Check.due("no angle", x.known(2, 0), -1);
        Check.due("no angle", x.known(-1, 0), -1);
        Check.due("without readings", x.known(0, 4), -2);
        unseen(x, 0);
        Check.due("without seen ones", x.known(0, 4), -2);
        x.pass(1);
        int r = Check.read(x, 0, 0);
        Check.due("a day ahead of it", x.known(0, 4), -2);
        Check.due("MEAN 0", x.known(0, 5), 0);
        x.pass(1);
        x.strike(r, 0, true);
        Check.due("not struck yet", x.known(0, 5), 0);
        Check.due("struck", x.known(0, 6), -2);
        Check.due("known on the first day", x.known(1, 0), 100);
        Check.due("what is known changes nothing", x.angleOf(1, 0), 116);
        Check.due("known on the first day", x.known(1, 0), 100);
        Check.due("nor of the readings", x.reading(3, 7), 1);
        Check.due("known on the first day", x.known(1, 0), 100);
        Check.due("nor which are led", x.led(1, 1), 2);
    }

    /** Strikes of several readings by turns: each has its own days. */
    private static void knownByHand() {
        Check.says(14, "struck by hand as told up to it");
        GreatArc x = withAngles(2);
        int other = Check.read(x, 0, 50);
        int a = Check.read(x, 1, 100);
        int b = Check.read(x, 1, 200);
        x.strike(other, 0, true);
        x.pass(1);
        x.strike(a, 0, true);
        x.pass(1);
        x.strike(other, 0, false);
        x.strike(b, 0, true);
        x.pass(1);
        x.strike(a, 0, false);
        x.strike(b, 0, false);
        x.strike(b, 0, true);
        x.pass(1);
        x.strike(b, 0, false);
        int[] want = {150, 200, -2, 100, 150};
        for (int day = 0; day <= 4; day++) {
            Check.due("of day " + day, x.known(1, day), want[day]);
            Check.due("of the other, day " + day, x.known(0, day), day < 2 ? -2 : 50);
        }
    }

    private static void led() {
        Check.says(15, "LED: the i-th KEPT READING of an ANGLE. NoSuchElementException if there is none such.");
        GreatArc x = withAngles(3);
        for (int r = 0; r < 9; r++) {
            Check.read(x, r % 3, 90 - r);
        }
        unseen(x, 2);
        Check.read(x, 2, 7);
        for (int a = 0; a < 3; a++) {
            for (int i = 0; i < 3; i++) {
                Check.due("led(" + a + ", " + i + ")", x.led(a, i), a + 3 * i);
            }
        }
        Check.due("behind one not seen", x.led(2, 3), 10);
        x.strike(5, 0, true);
        Check.due("ahead of the struck one", x.led(2, 0), 2);
        Check.due("behind the struck one", x.led(2, 1), 8);
        Check.due("behind the struck one", x.led(2, 2), 10);
        int[][] none = {{2, 3}, {1, 3}, {2, -1}, {0, Integer.MAX_VALUE}, {0, Integer.MIN_VALUE}, {3, 0}, {-1, 0},
            {Integer.MIN_VALUE, 0}, {Integer.MAX_VALUE, 0}};
        for (int[] n : none) {
            Check.due("led(" + n[0] + ", " + n[1] + ") throws", Check.throwsNoSuch(x, n[0], n[1]), true);
        }
        for (int i = 0; i < 3; i++) {
            x.strike(1 + 3 * i, 0, true);
        }
        Check.due("none is kept", Check.throwsNoSuch(x, 1, 0), true);
    }
}
