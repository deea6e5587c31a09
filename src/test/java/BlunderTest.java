/** Promises 41 to 45: suspects, and the fewest readings that may be blunders. */
public final class BlunderTest {
    private static final int SIXTY = 2160000;

    public static void main(String[] args) {
        suspects();
        fewest();
        ties();
        lastOnes();
        roundsToo();
        oneForTheOther();
        Check.end();
    }

    /** One triangle of sixty degrees each, read so often. */
    private static GreatArc triangle(int times) {
        GreatArc x = Check.room(4);
        x.angle(0, 1, 2);
        x.angle(1, 2, 0);
        x.angle(2, 0, 1);
        x.triangle(0, 1, 2, 0);
        for (int i = 0; i < times; i++) {
            for (int a = 0; a < 3; a++) {
                Check.read(x, a, SIXTY);
            }
        }
        return x;
    }

    private static void suspects() {
        GreatArc x = triangle(5);
        x.read(0, Check.bits(Float.NaN), 0, 0);
        Check.refused(41, x, "no reading", x.suspect(16), 1);
        Check.refused(41, x, "no reading", x.suspect(-1), 1);
        Check.refused(41, x, "not seen", x.suspect(15), 5);
        x.strike(0, 0, true);
        Check.refused(41, x, "struck", x.suspect(0), 5);
        for (int i = 1; i <= 12; i++) {
            Check.told(41, x, "suspect", x.suspect(i), i);
        }
        Check.refused(41, x, "already", x.suspect(12), 5);
        Check.refused(41, x, "a 13th", x.suspect(13), 3);
        Check.due(41, "count(10)", x.count(10), 12);
        x.strike(5, 0, true);
        Check.due(41, "one that isn't kept stays", x.count(10), 12);
        Check.due(42, "clear", x.clear(), 12);
        Check.due(42, "clear", x.clear(), 0);
        Check.due(42, "clear leaves trouble alone", x.trouble(), 0);
        Check.told(41, x, "suspect", x.suspect(12), 1);
        Check.rule(x, "strike if off = 0");
        Check.refused(41, x, "struck by a rule", x.suspect(13), 5);
    }

    private static void guilty(GreatArc x, int... readings) {
        Check.due(43, "blunder", x.blunder(), readings.length);
        for (int i = 0; i < readings.length; i++) {
            Check.due(44, "guilty " + i, x.guilty(i), readings[i]);
        }
        Check.due(44, "behind the last", x.guilty(readings.length), -1);
        Check.due(44, "ahead of the first", x.guilty(-1), -1);
    }

    private static void fewest() {
        GreatArc x = triangle(2);
        Check.due(45, "ahead of any", x.rivals(), 0);
        guilty(x);
        Check.due(45, "the empty set", x.rivals(), 1);
        // mean 0 becomes (2 * 60 degrees and 600) / 3: a miss of 200
        int a = Check.read(x, 0, SIXTY + 600);
        Check.due(43, "no suspects", x.blunder(), -2);
        Check.due(45, "the latest that told", x.rivals(), 1);
        x.suspect(1);
        x.suspect(2);
        Check.due(43, "not even all do", x.blunder(), -2);
        x.suspect(a);
        guilty(x, a);
        Check.due(45, "rivals", x.rivals(), 1);
        int b = Check.read(x, 1, SIXTY + 900);
        x.suspect(b);
        // 200 and 300 are beyond: without b 200, without a 300, without both 0
        guilty(x, a, b);
        Check.due(45, "rivals", x.rivals(), 1);
        Check.rule(x, "close 250");
        guilty(x, b);
        Check.rule(x, "close 300");
        // either may go now
        guilty(x, a);
        Check.due(45, "either", x.rivals(), 2);
        Check.rule(x, "close 199");
        guilty(x, a, b);
        x.strike(a, 0, true);
        guilty(x, b);
        x.strike(b, 0, true);
        guilty(x);
        x.strike(a, 0, false);
        Check.due(43, "it is among them again", x.blunder(), 1);
        Check.due(44, "it is among them again", x.guilty(0), a);
        x.clear();
        Check.due(43, "none", x.blunder(), -2);
        Check.due(44, "the latest that told", x.guilty(0), a);
        Check.due(45, "the latest that told", x.rivals(), 1);
    }

    private static void ties() {
        GreatArc x = triangle(1);
        int[] r = new int[4];
        for (int i = 0; i < 4; i++) {
            r[i] = Check.read(x, 2, SIXTY + 400);
        }
        // told backwards, for the first is by numbers; three of four bring it to 200, all four to 0
        for (int i = 3; i >= 0; i--) {
            x.suspect(r[i]);
        }
        Check.rule(x, "close 200");
        guilty(x, r[0], r[1], r[2]);
        Check.due(45, "three of four", x.rivals(), 4);
        Check.rule(x, "close 266");
        // 400 * 2 / 3 is 266 downwards
        guilty(x, r[0], r[1]);
        Check.due(45, "two of four", x.rivals(), 6);
        Check.rule(x, "close 265");
        guilty(x, r[0], r[1], r[2]);
        Check.rule(x, "close 320");
        guilty(x);
    }

    private static void lastOnes() {
        GreatArc x = triangle(1);
        int bad = Check.read(x, 0, SIXTY + 1000);
        x.strike(0, 0, true);
        x.suspect(bad);
        Check.due(43, "the last kept one of its angle", x.blunder(), -2);
        x.strike(0, 0, false);
        guilty(x, bad);
        x.suspect(0);
        guilty(x, bad);
        // without all means there is no miss to speak of
        GreatArc y = triangle(1);
        y.strike(0, 0, true);
        Check.read(y, 1, 9);
        guilty(y);
    }

    private static void roundsToo() {
        GreatArc x = Check.room(4);
        x.angle(0, 1, 2);
        x.angle(0, 2, 3);
        x.angle(0, 3, 1);
        x.round(0, 1, 2, -1, 0, 0);
        Check.read(x, 0, 2 * SIXTY);
        Check.read(x, 1, 2 * SIXTY);
        Check.read(x, 2, 2 * SIXTY);
        Check.read(x, 2, 2 * SIXTY - 500);
        x.suspect(3);
        x.suspect(2);
        guilty(x, 3);
        Check.due(45, "rivals", x.rivals(), 1);
        Check.due(43, "nothing is struck by it", x.reading(3, 7), 1);
        Check.due(43, "nothing is struck by it", x.miss(0, true), -250);
    }

    /** What mends the second triangle spoils the first: with it the one is within, without it the other. */
    private static void oneForTheOther() {
        GreatArc x = triangle(0);
        x.angle(1, 2, 0);
        x.angle(2, 0, 1);
        x.triangle(0, 3, 4, 0);
        Check.read(x, 0, SIXTY);
        int shared = Check.read(x, 0, SIXTY + 600);
        Check.read(x, 1, SIXTY);
        Check.read(x, 2, SIXTY - 300);
        Check.read(x, 3, SIXTY);
        Check.read(x, 4, SIXTY);
        Check.due(28, "the first", x.miss(0, false), 0);
        Check.due(28, "the second", x.miss(1, false), 300);
        x.suspect(shared);
        Check.due(43, "no way", x.blunder(), -2);
        x.suspect(3);
        Check.due(43, "the last of its angle can't go", x.blunder(), -2);
        Check.read(x, 2, SIXTY);
        // -150 and 300 now: without both they are 0
        guilty(x, shared, 3);
    }
}
