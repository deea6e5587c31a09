/** Promises 22 to 25 by their sentences: bases of bars that grow with heat and lie on slopes. */
public final class BasesTest {
    public static void main(String[] args) {
        bases();
        bars();
        growing();
        spans();
        laidAgain();
        ofBases();
        Check.end();
    }

    private static void bases() {
        Check.says(22, "BASES 6 (40 BARS each),");
        GreatArc x = Check.room(8);
        for (int b = 0; b < 6; b++) {
            Check.told(x, "a base", x.base(b, b + 1, 0), b);
        }
        Check.refused(x, "a seventh", x.base(6, 7, 0), 3);
        Check.refused(x, "a seventh, laid again", x.base(0, 1, 1), 3);
        Check.due("BASES", x.count(4), 6);
        Check.due("the seventh isn't there", x.baseOf(6, 0), -1);
        Check.due("nor is the first laid again", x.baseOf(0, 4), 0);
        for (int n = 1; n <= 40; n++) {
            Check.told(x, "a bar", x.bar(5, 1000, 15, 0), n);
            Check.told(x, "a bar of another base", x.bar(4, 2000, 15, 0), n);
        }
        Check.refused(x, "a 41st", x.bar(5, 1000, 15, 0), 3);
        Check.due("BARS", x.baseOf(5, 1), 40);
        Check.due("together", x.baseOf(5, 0), 40000);
        Check.due("of the other", x.baseOf(4, 0), 80000);
        Check.says(22, "A BASE laid by a PARTY: its number. NONE: 1; 5 (one MARK twice; these MARKS have two BASES, or one by that "
            + "PARTY); 3.");
        GreatArc y = Check.room(4);
        int[][] bad = {{4, 0, 0, 1}, {0, 4, 0, 1}, {-1, 0, 0, 1}, {0, -1, 0, 1}, {0, 1, 3, 1}, {0, 1, -1, 1}, {2, 2, 0, 5}};
        for (int[] b : bad) {
            Check.refused(y, "base " + b[0] + " " + b[1] + " by " + b[2], y.base(b[0], b[1], b[2]), b[3]);
            Check.due("BASES", y.count(4), 0);
        }
        Check.told(y, "by party 1", y.base(0, 1, 1), 0);
        Check.refused(y, "by that party", y.base(0, 1, 1), 5);
        Check.refused(y, "by that party the other way about", y.base(1, 0, 1), 5);
        Check.told(y, "of other marks by it", y.base(0, 2, 1), 1);
        Check.told(y, "by party 0", y.base(1, 0, 0), 2);
        Check.refused(y, "these marks have two", y.base(0, 1, 2), 5);
        Check.refused(y, "these marks have two", y.base(1, 0, 0), 5);
        Check.told(y, "others have one", y.base(2, 0, 2), 3);
        Check.due("BASES", y.count(4), 4);
    }

    private static void bars() {
        Check.says(23, "V. A BASE between two MARKS, laid by a PARTY: BARS, each a length (1,000 .. 100,000), a HEAT (-20 .. 60) "
            + "and a RISE (0 .. 999, less than its length).");
        GreatArc x = Check.room(2);
        x.base(0, 1, 0);
        int[][] good = {{1000, 15, 0}, {100000, 15, 0}, {5000, -20, 0}, {5000, 60, 0}, {1000, 15, 999}, {100000, 60, 999}};
        for (int i = 0; i < good.length; i++) {
            Check.told(x, "bar " + good[i][0] + " " + good[i][1] + " " + good[i][2], x.bar(0, good[i][0], good[i][1], good[i][2]),
                i + 1);
        }
        Check.says(23, "A BAR more: how many the BASE has. NONE: 1; 2; 3.");
        int length = x.baseOf(0, 0);
        int[][] bad = {{0, 999, 15, 0, 2}, {0, 100001, 15, 0, 2}, {0, 5000, -21, 0, 2}, {0, 5000, 61, 0, 2},
            {0, 5000, 15, -1, 2}, {0, 5000, 15, 1000, 2}, {0, 1000, 15, 1000, 2}, {1, 5000, 15, 0, 1}, {-1, 5000, 15, 0, 1},
            {0, Integer.MIN_VALUE, 15, 0, 2}, {0, Integer.MAX_VALUE, 15, 0, 2}, {0, 5000, Integer.MIN_VALUE, 0, 2},
            {0, 5000, 15, Integer.MAX_VALUE, 2}, {Integer.MAX_VALUE, 5000, 15, 0, 1}};
        for (int[] b : bad) {
            Check.refused(x, "bar " + b[0] + " of " + b[1] + " " + b[2] + " " + b[3], x.bar(b[0], b[1], b[2], b[3]), b[4]);
            Check.due("BARS", x.baseOf(0, 1), 6);
            Check.due("as long as ahead", x.baseOf(0, 0), length);
        }
    }

    /** What a bar alone is, by a growth. */
    private static int bar(int growth, int length, int heat, int rise) {
        GreatArc x = Check.room(2);
        x.base(0, 1, 0);
        x.bar(0, length, heat, rise);
        if (growth >= 0) {
            x.growth(growth);
        }
        return x.baseOf(0, 0);
    }

    private static void growing() {
        Check.says(24, "What a BAR is: its length, and length times GROWTH (0 .. 50; 11 until told, of all BARS) times HEAT less "
            + "15, by 100,000 toward 0, less RISE times RISE by twice its length, downwards.");
        Check.due("11 until told", bar(-1, 100000, 16, 0), 100011);
        Check.due("11 until told, and cold", bar(-1, 100000, -20, 0), 100000 - 385);
        Check.due("no growth", bar(0, 100000, 60, 0), 100000);
        Check.due("heat 15", bar(50, 100000, 15, 0), 100000);
        Check.due("the most", bar(50, 100000, 60, 0), 102250);
        Check.due("the coldest", bar(50, 100000, -20, 0), 98250);
        Check.due("199,998 by 100,000", bar(6, 33333, 16, 0), 33334);
        Check.due("-199,998 by 100,000 toward 0", bar(6, 33333, 14, 0), 33332);
        Check.due("200,000 by 100,000", bar(4, 50000, 16, 0), 50002);
        Check.due("-200,000 by 100,000", bar(4, 50000, 14, 0), 49998);
        Check.due("99,999 by 100,000", bar(1, 99999, 16, 0), 99999);
        Check.due("-99,999 by 100,000 toward 0", bar(1, 99999, 14, 0), 99999);
        Check.due("1,936 by 2,000", bar(11, 1000, 15, 44), 1000);
        Check.due("2,025 by 2,000", bar(11, 1000, 15, 45), 999);
        Check.due("998,001 by 2,000", bar(11, 1000, 15, 999), 501);
        Check.due("998,001 by 200,000", bar(11, 100000, 15, 999), 99996);
        Check.due("3,969 by 4,000", bar(0, 2000, 15, 63), 2000);
        Check.due("4,096 by 4,000", bar(0, 2000, 15, 64), 1999);
        Check.due("1,000 * 50 * -35 by 100,000 less 499", bar(50, 1000, -20, 999), 1000 - 17 - 499);
        Check.says(24, "GROWTH: true; false (2).");
        GreatArc x = Check.room(3);
        x.base(0, 1, 0);
        x.base(1, 2, 0);
        x.bar(0, 100000, 16, 0);
        x.bar(1, 100000, 17, 0);
        x.bar(1, 100000, 16, 0);
        Check.told(x, "the most", x.growth(50));
        int[] bad = {-1, 51, Integer.MIN_VALUE, Integer.MAX_VALUE};
        for (int g : bad) {
            Check.refused(x, "growth " + g, x.growth(g), 2);
            Check.due("of one bar", x.baseOf(0, 0), 100050);
            Check.due("of each bar", x.baseOf(1, 0), 200150);
        }
        Check.told(x, "the least", x.growth(0));
        Check.due("of all bars", x.baseOf(0, 0) + x.baseOf(1, 0), 300000);
    }

    private static void spans() {
        Check.says(25, "A BASE: all its BARS together; its SPAN that less and more as many as it has BARS.");
        GreatArc x = Check.room(2);
        x.base(0, 1, 0);
        for (int n = 0; n <= 40; n++) {
            Check.due("together", x.baseOf(0, 0), 2000 * n);
            Check.due("least", x.baseOf(0, 2), 2000 * n - n);
            Check.due("most", x.baseOf(0, 3), 2000 * n + n);
            x.bar(0, 2000, 15, 0);
        }
    }

    /** Two bases of the same marks with these bars, and what both tell of the two. */
    private static void joined(int[] ones, int[] others, int least, int most, int laid) {
        GreatArc x = Check.room(3);
        x.base(1, 2, 0);
        x.base(0, 1, 0);
        x.base(1, 0, 1);
        for (int length : ones) {
            x.bar(1, length, 15, 0);
        }
        for (int length : others) {
            x.bar(2, length, 15, 0);
        }
        for (int b = 1; b <= 2; b++) {
            Check.due("least", x.baseOf(b, 2), least);
            Check.due("most", x.baseOf(b, 3), most);
            Check.due("laid again", x.baseOf(b, 4), laid);
        }
        Check.due("its own bars", x.baseOf(1, 1), ones.length);
        Check.due("the other's bars", x.baseOf(2, 1), others.length);
        Check.due("another base", x.baseOf(0, 4), 0);
    }

    private static void laidAgain() {
        Check.says(25, "LAID AGAIN by another PARTY (a second BASE of the same MARKS): JOINED: what lies in both SPANS, or from the "
            + "least to the most of both if nothing does (TORN).");
        int[] one = {10000};
        joined(one, new int[] {10000}, 9999, 10001, 1);
        joined(one, new int[] {10001}, 10000, 10001, 1);
        joined(one, new int[] {10002}, 10001, 10001, 1);
        joined(one, new int[] {10003}, 9999, 10004, 2);
        joined(new int[] {10003}, one, 9999, 10004, 2);
        joined(new int[] {10002}, one, 10001, 10001, 1);
        joined(one, new int[] {9998}, 9999, 9999, 1);
        joined(one, new int[] {9997}, 9996, 10001, 2);
        joined(new int[] {10000, 10000, 10000}, new int[] {30000}, 29999, 30001, 1);
        joined(new int[] {30000}, new int[] {10000, 10000, 10000}, 29999, 30001, 1);
        joined(new int[] {10000, 10000, 10000}, new int[] {30004}, 30003, 30003, 1);
        joined(new int[] {10000, 10000, 10000}, new int[] {30005}, 29997, 30006, 2);
        joined(new int[0], new int[0], 0, 0, 1);
        joined(new int[0], one, 0, 10001, 2);
        GreatArc x = Check.room(2);
        x.base(0, 1, 0);
        x.base(0, 1, 1);
        x.bar(0, 100000, 15, 0);
        x.bar(1, 100000, 16, 0);
        x.growth(2);
        Check.due("2 apart", x.baseOf(0, 4), 1);
        x.growth(3);
        Check.due("3 apart", x.baseOf(0, 4), 2);
        x.bar(1, 1000, 15, 0);
        x.bar(0, 1000, 15, 0);
        Check.due("3 apart, and 2 bars each", x.baseOf(1, 4), 1);
    }

    private static void ofBases() {
        Check.says(25, "Of a BASE what 0 its length, 1 BARS, 2 SPAN's least, 3 its most (JOINED, if it was LAID AGAIN), "
            + "4 whether LAID AGAIN (0 no, 1 JOINED, 2 TORN). NONE.");
        GreatArc x = Check.room(3);
        x.base(0, 1, 0);
        x.base(1, 2, 0);
        x.base(2, 1, 2);
        x.bar(0, 1000, 15, 0);
        x.bar(1, 2000, 15, 0);
        x.bar(2, 1000, 15, 0);
        x.bar(2, 1001, 15, 0);
        int[][] want = {{1000, 1, 999, 1001, 0}, {2000, 1, 1999, 2001, 1}, {2001, 2, 1999, 2001, 1}};
        for (int b = 0; b < 3; b++) {
            for (int what = 0; what < 5; what++) {
                Check.due("baseOf(" + b + ", " + what + ")", x.baseOf(b, what), want[b][what]);
            }
            int[] none = {-1, 5, Integer.MIN_VALUE, Integer.MAX_VALUE};
            for (int what : none) {
                Check.due("baseOf(" + b + ", " + what + ")", x.baseOf(b, what), -1);
            }
        }
        int[] none = {-1, 3, Integer.MIN_VALUE, Integer.MAX_VALUE};
        for (int b : none) {
            Check.due("no base " + b, x.baseOf(b, 0), -1);
        }
        x.bar(2, 1000, 15, 0);
        Check.due("torn", x.baseOf(1, 4), 2);
    }
}
