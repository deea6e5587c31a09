/** Promises 41 to 45: suspects, and the fewest readings that may be blunders. */
public final class BlunderTest {
    private static final int SIXTY = 2160000;

    public static void main(String[] args) {
        suspects();
        fewest();
        ties();
        lastOnes();
        roundsToo();
        oneForTheOther();
        sizes();
        bothWays();
        allConditions();
        notKeptAnyMore();
        firstByNumbers();
        Check.end();
    }

    /** One triangle of sixty degrees each, read so often. */
    private static GreatArc triangle(int times) {
        GreatArc x = Check.room(4);
        x.angle(0, 1, 2);
        x.angle(1, 2, 0);
        x.angle(2, 0, 1);
        x.triangle(0, 1, 2, 0);
        for (int i = 0; i < times; i++) {
            for (int a = 0; a < 3; a++) {
                Check.read(x, a, SIXTY);
            }
        }
        return x;
    }

    private static void suspects() {
        Check.says(41, "VIII. BLUNDERS: suspects: up to 12 READINGS, KEPT ones.");
        Check.due(57, "none at first", new GreatArc().count(10), 0);
        Check.says(41, "A READING becomes a suspect: how many there are. NONE: 1; 5 (not KEPT, already); 3.");
        GreatArc x = triangle(5);
        x.read(0, Check.bits(Float.NaN), 0, 0);
        Check.refused(41, x, "no reading", x.suspect(16), 1);
        Check.refused(41, x, "no reading", x.suspect(-1), 1);
        Check.refused(41, x, "not seen", x.suspect(15), 5);
        x.strike(0, 0, true);
        Check.refused(41, x, "struck", x.suspect(0), 5);
        for (int i = 1; i <= 12; i++) {
            Check.told(41, x, "suspect", x.suspect(i), i);
        }
        Check.refused(41, x, "already", x.suspect(12), 5);
        Check.refused(41, x, "a 13th", x.suspect(13), 3);
        Check.due(41, "count(10)", x.count(10), 12);
        x.strike(5, 0, true);
        Check.due(41, "one that isn't kept stays", x.count(10), 12);
        Check.says(42, "No suspects: how many there were.");
        Check.due(42, "clear", x.clear(), 12);
        Check.due(42, "none now", x.count(10), 0);
        Check.due(42, "clear", x.clear(), 0);
        Check.due(42, "clear leaves trouble alone", x.trouble(), 0);
        Check.told(41, x, "suspect", x.suspect(12), 1);
        Check.refused(41, x, "far from any", x.suspect(Integer.MAX_VALUE), 1);
        Check.refused(41, x, "far from any", x.suspect(Integer.MIN_VALUE), 1);
        Check.rule(x, "strike if off = 0");
        Check.refused(41, x, "struck by a rule", x.suspect(13), 5);
    }

    private static void guilty(GreatArc x, int... readings) {
        Check.due(43, "blunder", x.blunder(), readings.length);
        for (int i = 0; i < readings.length; i++) {
            Check.due(44, "guilty " + i, x.guilty(i), readings[i]);
        }
        Check.due(44, "behind the last", x.guilty(readings.length), -1);
        Check.due(44, "ahead of the first", x.guilty(-1), -1);
    }

    private static void fewest() {
        Check.says(45, "How many sets of that size there were; 0 ahead of any.");
        GreatArc empty = new GreatArc();
        Check.due(43, "of nothing", empty.blunder(), 0);
        Check.due(45, "the empty set", empty.rivals(), 1);
        GreatArc x = triangle(2);
        Check.due(45, "ahead of any", x.rivals(), 0);
        guilty(x);
        Check.due(45, "the empty set", x.rivals(), 1);
        Check.says(44, "The i-th of the latest blunder() that told 0 or more; NONE.");
        // mean 0 becomes (2 * 60 degrees and 600) / 3: a miss of 200
        int a = Check.read(x, 0, SIXTY + 600);
        Check.due(43, "no suspects", x.blunder(), -2);
        Check.due(45, "the latest that told", x.rivals(), 1);
        x.suspect(1);
        x.suspect(2);
        Check.due(43, "not even all do", x.blunder(), -2);
        x.suspect(a);
        guilty(x, a);
        Check.due(45, "rivals", x.rivals(), 1);
        int b = Check.read(x, 1, SIXTY + 900);
        x.suspect(b);
        // 200 and 300 are beyond: without b 200, without a 300, without both 0
        guilty(x, a, b);
        Check.due(45, "rivals", x.rivals(), 1);
        Check.rule(x, "close 250");
        guilty(x, b);
        Check.rule(x, "close 300");
        // either may go now
        guilty(x, a);
        Check.due(45, "either", x.rivals(), 2);
        Check.rule(x, "close 199");
        guilty(x, a, b);
        x.strike(a, 0, true);
        guilty(x, b);
        x.strike(b, 0, true);
        guilty(x);
        x.strike(a, 0, false);
        Check.due(43, "it is among them again", x.blunder(), 1);
        Check.due(44, "it is among them again", x.guilty(0), a);
        x.clear();
        Check.due(43, "none", x.blunder(), -2);
        Check.due(44, "the latest that told", x.guilty(0), a);
        Check.due(45, "the latest that told", x.rivals(), 1);
    }

    private static void ties() {
        GreatArc x = triangle(1);
        int[] r = new int[4];
        for (int i = 0; i < 4; i++) {
            r[i] = Check.read(x, 2, SIXTY + 400);
        }
        // told backwards, for the first is by numbers; three of four bring it to 200, all four to 0
        for (int i = 3; i >= 0; i--) {
            x.suspect(r[i]);
        }
        Check.rule(x, "close 200");
        guilty(x, r[0], r[1], r[2]);
        Check.due(45, "three of four", x.rivals(), 4);
        Check.rule(x, "close 266");
        // 400 * 2 / 3 is 266 downwards
        guilty(x, r[0], r[1]);
        Check.due(45, "two of four", x.rivals(), 6);
        Check.rule(x, "close 265");
        guilty(x, r[0], r[1], r[2]);
        Check.rule(x, "close 320");
        guilty(x);
    }

    private static void lastOnes() {
        Check.says(43, "(No ANGLE may lose its last KEPT one.)");
        GreatArc x = triangle(1);
        int bad = Check.read(x, 0, SIXTY + 1000);
        x.strike(0, 0, true);
        x.suspect(bad);
        Check.due(43, "the last kept one of its angle", x.blunder(), -2);
        x.strike(0, 0, false);
        guilty(x, bad);
        x.suspect(0);
        guilty(x, bad);
        lastOneBetween();
        // without all means there is no miss to speak of
        GreatArc y = triangle(1);
        y.strike(0, 0, true);
        Check.read(y, 1, 9);
        guilty(y);
    }

    /** Readings 2 and 4 have to go; 3, between them, is the only one of its angle. */
    private static void lastOneBetween() {
        GreatArc x = triangle(0);
        Check.read(x, 0, SIXTY);
        Check.read(x, 1, SIXTY);
        Check.read(x, 0, SIXTY + 600);
        Check.read(x, 2, SIXTY);
        Check.read(x, 1, SIXTY + 600);
        for (int r = 2; r <= 4; r++) {
            x.suspect(r);
        }
        guilty(x, 2, 4);
        Check.due(45, "no other two", x.rivals(), 1);
    }

    private static void roundsToo() {
        GreatArc x = Check.room(4);
        x.angle(0, 1, 2);
        x.angle(0, 2, 3);
        x.angle(0, 3, 1);
        x.round(0, 1, 2, -1, 0, 0);
        Check.read(x, 0, 2 * SIXTY);
        Check.read(x, 1, 2 * SIXTY);
        Check.read(x, 2, 2 * SIXTY);
        Check.read(x, 2, 2 * SIXTY - 500);
        x.suspect(3);
        x.suspect(2);
        guilty(x, 3);
        Check.due(45, "rivals", x.rivals(), 1);
        Check.due(43, "nothing is struck by it", x.reading(3, 7), 1);
        Check.due(43, "nothing is struck by it", x.miss(0, true), -250);
    }

    /** What mends the second triangle spoils the first: with it the one is within, without it the other. */
    private static void oneForTheOther() {
        GreatArc x = triangle(0);
        x.angle(1, 2, 0);
        x.angle(2, 0, 1);
        x.triangle(0, 3, 4, 0);
        Check.read(x, 0, SIXTY);
        int shared = Check.read(x, 0, SIXTY + 600);
        Check.read(x, 1, SIXTY);
        Check.read(x, 2, SIXTY - 300);
        Check.read(x, 3, SIXTY);
        Check.read(x, 4, SIXTY);
        Check.due(28, "the first", x.miss(0, false), 0);
        Check.due(28, "the second", x.miss(1, false), 300);
        x.suspect(shared);
        Check.due(43, "no way", x.blunder(), -2);
        x.suspect(3);
        Check.due(43, "the last of its angle can't go", x.blunder(), -2);
        Check.read(x, 2, SIXTY);
        // -150 and 300 now: without both they are 0
        guilty(x, shared, 3);
    }

    /** Six sound readings and twelve suspects, 600 too great: without k of them the mean is 600 (12 - k) by 18 - k. */
    private static void sizes() {
        Check.says(43, "The fewest of them whose striking by hand lets all MISSES of TRIANGLES and ROUNDS (that have all MEANS) lie "
            + "within ALLOWED, both ways; of as few the first by numbers; how many such sets of that size there are.");
        GreatArc x = triangle(1);
        for (int i = 1; i < 6; i++) {
            Check.read(x, 0, SIXTY);
        }
        int[] r = new int[12];
        for (int i = 0; i < 12; i++) {
            r[i] = Check.read(x, 0, SIXTY + 600);
            Check.told(41, x, "suspect", x.suspect(r[i]), i + 1);
        }
        int ways = 1;
        for (int k = 0; k <= 12; k++) {
            Check.rule(x, "close " + 600 * (12 - k) / (18 - k));
            guilty(x, java.util.Arrays.copyOf(r, k));
            Check.due(45, k + " of twelve", x.rivals(), ways);
            ways = ways * (12 - k) / (k + 1);
        }
        Check.says(43, "BLUNDERS: how many; -2 if not even all do.");
        int one = Check.read(x, 1, SIXTY + 2);
        Check.due(43, "1 too great without all twelve", x.blunder(), -2);
        x.strike(one, 0, true);
        Check.due(43, "all twelve", x.blunder(), 12);
    }

    private static void bothWays() {
        Check.says(43, "lie within ALLOWED, both ways;");
        int[] means = {100, 101, -100, -101};
        for (int mean : means) {
            GreatArc x = triangle(1);
            int odd = Check.read(x, 1, SIXTY + 2 * mean);
            x.suspect(odd);
            Check.due(28, "the miss", x.miss(0, false), mean);
            Check.due(43, "a miss of " + mean, x.blunder(), mean == 100 || mean == -100 ? 0 : 1);
        }
    }

    /** Three triangles and two rounds, each with angles of its own; one after the other is made wide. */
    private static void allConditions() {
        Check.says(43, "lets all MISSES of TRIANGLES and ROUNDS (that have all MEANS)");
        GreatArc x = Check.room(4);
        for (int t = 0; t < 3; t++) {
            for (int i = 0; i < 3; i++) {
                x.angle(i, (i + 1) % 3, (i + 2) % 3);
                Check.read(x, 3 * t + i, SIXTY);
            }
            x.triangle(3 * t, 3 * t + 1, 3 * t + 2, 0);
        }
        for (int r = 0; r < 2; r++) {
            x.angle(3, 0, 1);
            x.angle(3, 1, 0);
            Check.read(x, 9 + 2 * r, 3 * SIXTY);
            Check.read(x, 10 + 2 * r, 3 * SIXTY);
            x.round(9 + 2 * r, 10 + 2 * r, -1, 0, 0, 0);
        }
        int[] angles = {12, 8, 3, 10, 1, 0, 11};
        int[] odd = new int[angles.length];
        for (int i = 0; i < angles.length; i++) {
            odd[i] = Check.read(x, angles[i], (angles[i] < 9 ? SIXTY : 3 * SIXTY) + 300 + 10 * i);
            Check.due(43, "beyond by the reading of angle " + angles[i], x.blunder(), -2);
            x.suspect(odd[i]);
            guilty(x, java.util.Arrays.copyOf(odd, i + 1));
            Check.due(45, "no other set", x.rivals(), 1);
        }
        Check.rule(x, "close 200");
        // triangle 0 is 170 and 175 beyond, round 1 150 and 180
        guilty(x, odd[0], odd[4]);
        Check.due(45, "one of the two of triangle 0, and one of round 1", x.rivals(), 4);
        // without a mean of its own a condition is left out
        x.strike(1, 0, true);
        x.strike(odd[4], 0, true);
        guilty(x, odd[0]);
        Check.due(45, "one of round 1", x.rivals(), 2);
        x.strike(odd[4], 0, false);
        x.strike(1, 0, false);
        Check.rule(x, "close 100");
        guilty(x, odd);
    }

    private static void notKeptAnyMore() {
        Check.says(43, "(Those that aren't KEPT any more are left out.)");
        for (int way = 0; way < 2; way++) {
            GreatArc x = triangle(1);
            x.read(0, Check.bits(SIXTY + 250), 3, 1);
            x.read(0, Check.bits(SIXTY + 300), 4, 1);
            x.suspect(3);
            x.suspect(4);
            guilty(x, 3, 4);
            if (way == 0) {
                x.strike(3, 0, true);
            } else {
                Check.rule(x, "strike if hour = 3");
            }
            Check.due(41, "a suspect still", x.count(10), 2);
            Check.due(28, "a mean of 150 too much", x.miss(0, false), 150);
            guilty(x, 4);
            Check.due(45, "the one left", x.rivals(), 1);
            Check.refused(41, x, "it isn't kept", x.suspect(3), 5);
            if (way == 0) {
                x.strike(3, 0, false);
            } else {
                x.force(0, 9, 9);
            }
            Check.refused(41, x, "it is one already", x.suspect(3), 5);
            guilty(x, 3, 4);
        }
    }

    private static void firstByNumbers() {
        Check.says(43, "of as few the first by numbers; how many such sets of that size there are.");
        GreatArc x = triangle(1);
        // two readings each at angles 0 and 1 are 400 too great: 266 each, 200 with one less, 0 with none
        int[] order = {6, 4, 5, 3};
        Check.read(x, 0, SIXTY + 400);
        Check.read(x, 0, SIXTY + 400);
        Check.read(x, 1, SIXTY + 400);
        Check.read(x, 1, SIXTY + 400);
        for (int r : order) {
            x.suspect(r);
        }
        Check.rule(x, "close 400");
        guilty(x, 3, 4);
        Check.due(45, "any two", x.rivals(), 6);
        Check.rule(x, "close 265");
        guilty(x, 3, 4, 5);
        Check.due(45, "any three", x.rivals(), 4);
        Check.rule(x, "close 466");
        guilty(x, 3);
        Check.due(45, "any one", x.rivals(), 4);
    }
}
