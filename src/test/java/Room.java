import java.util.ArrayList;
import java.util.List;

/** A room with something of everything in it, and all that can be asked of it. */
final class Room {
    private static final int SIXTY = 2160000;

    /** A call with its arguments; what it answers as a number, a boolean as 1 or 0. */
    interface Call {
        long of(GreatArc x);
    }

    private Room() { }

    static GreatArc ready() {
        GreatArc x = new GreatArc();
        int[] cells = {0, 4, 128, 132, 66};
        for (int cell : cells) {
            x.mark(cell);
        }
        x.party(true);
        x.party(false);
        x.party(true);
        x.tower(0, 10);
        x.lamp(1, true);
        x.haze(0, 3, 2);
        net(x);
        measures(x);
        Check.rule(x, "close 500");
        Check.rule(x, "weight at+1");
        Check.rule(x, "strike if off>5000");
        Check.rule(x, "least 1000");
        x.adjust(3, 1);
        x.chain(0, 2, 3);
        x.suspect(0);
        x.suspect(1);
        x.blunder();
        x.pass(2);
        x.strike(7, 0, true);
        Check.feed(x, "close 7");
        return x;
    }

    /** Two triangles and a round, with readings; the last angle is left without a mean by the day of ready(). */
    private static void net(GreatArc x) {
        int[][] angles = {{0, 1, 2}, {1, 2, 0}, {2, 0, 1}, {0, 2, 1}, {3, 1, 2}, {1, 2, 3}, {2, 3, 1}};
        for (int[] a : angles) {
            x.angle(a[0], a[1], a[2]);
        }
        int[] readings = {SIXTY, SIXTY, SIXTY + 40, 5 * SIXTY, SIXTY, SIXTY + 9, SIXTY, SIXTY + 30, SIXTY + 2, SIXTY - 8};
        int[] of = {0, 1, 2, 3, 4, 5, 2, 6, 0, 1};
        for (int r = 0; r < of.length; r++) {
            Check.read(x, of[r], readings[r]);
        }
        x.read(1, 0x7FC00000, 3, 1);
        x.read(4, Check.bits(SIXTY + 5), 20, 2);
        x.triangle(0, 1, 2, 0);
        x.triangle(4, 5, 6, 3);
        x.round(0, 3, -1, 0, 0, 0);
    }

    private static void measures(GreatArc x) {
        x.base(0, 1, 0);
        x.base(2, 3, 0);
        x.base(3, 2, 2);
        x.bar(0, 10000, 20, 30);
        x.bar(0, 20000, 10, 0);
        x.bar(1, 30000, 15, 0);
        x.bar(2, 30001, 15, 0);
        x.star(0, 1, 1000, 5);
        x.star(0, 1, 1003, 6);
        x.level(0, 1, 50, 3);
        x.level(1, 0, -41, 3);
        x.level(1, 2, -7, 3);
        x.mass(8, 100);
        x.mass(700, 5000);
        x.arc(10, 1000);
        x.arc(20, 1015);
    }

    /** All that is told of a room without telling it anything; within the calls that are left of it. */
    static List<Long> asked(GreatArc x) {
        List<Long> told = new ArrayList<>();
        askCounts(x, told);
        askBook(x, told);
        askLatest(x, told);
        askMarks(x, told);
        return told;
    }

    private static void askCounts(GreatArc x, List<Long> told) {
        for (int what = 0; what <= 13; what++) {
            told.add((long) x.count(what));
        }
        for (int base = 0; base < 3; base++) {
            for (int what = 0; what < 5; what++) {
                told.add((long) x.baseOf(base, what));
            }
        }
        told.add((long) x.told(0));
        told.add((long) x.told(1));
        told.add((long) x.wide());
        told.add(x.figure(true));
        told.add(x.figure(false));
        told.add(x.cost());
        told.add((long) x.fault());
    }

    private static void askBook(GreatArc x, List<Long> told) {
        for (int a = 0; a < 7; a++) {
            int[] whats = {0, 1, 6, 8, 9};
            for (int what : whats) {
                told.add((long) x.angleOf(a, what));
            }
            told.add((long) x.change(a));
            told.add((long) x.part(a, a % 2 == 0));
        }
        for (int r = 0; r < 12; r++) {
            told.add((long) x.reading(r, 5 + r % 2));
            told.add((long) x.reading(r, 7));
        }
        for (int day = 0; day <= 2; day++) {
            told.add((long) x.known(2, day));
        }
    }

    private static void askLatest(GreatArc x, List<Long> told) {
        for (int i = 0; i < 3; i++) {
            told.add((long) x.link(i));
            told.add((long) x.guilty(i));
            told.add((long) x.miss(i, false));
            told.add((long) x.miss(i, true));
            told.add((long) x.well(i));
        }
        told.add((long) x.side(false));
        told.add((long) x.side(true));
        told.add((long) x.rivals());
    }

    private static void askMarks(GreatArc x, List<Long> told) {
        for (int m = 0; m < 5; m++) {
            told.add((long) x.pull(m, false));
            told.add((long) x.pull(m, true));
            for (int n = 0; n < 5; n++) {
                if (n != m) {
                    told.add((long) x.see(m, n, 2, 3));
                    told.add((long) x.north(m, n));
                }
                if (n > m) {
                    told.add((long) x.see(m, n, 0, 3));
                    told.add((long) x.steps(m, n));
                    told.add((long) x.between(m, n));
                    told.add((long) x.doubt(m, n));
                }
            }
        }
    }

    /** What each kind of call that makes or finds something tells of a room. */
    static List<Long> made(GreatArc x) {
        List<Long> told = new ArrayList<>();
        Call[] calls = {y -> y.blunder(), y -> y.rivals(), y -> y.chain(0, 1, 2), y -> y.side(true), y -> y.adjust(1, 1),
            y -> y.change(0), y -> y.cost(), y -> y.close(0, 1), y -> y.mark(900), y -> y.party(true), y -> y.angle(0, 1, 2),
            y -> y.read(0, 0, 0, 0), y -> y.rule(7, 0, 9), y -> y.told(1), y -> y.base(3, 4, 0), y -> y.bar(0, 1000, 15, 0),
            y -> y.triangle(0, 1, 2, 0), y -> y.round(0, 3, -1, 0, 0, 0), y -> y.suspect(2), y -> y.star(0, 1, 7, 0),
            y -> y.level(0, 1, 7, 0), y -> y.mass(5, 5), y -> y.arc(5, 5), y -> y.pass(1), y -> y.clear(), y -> y.miss(0, true)};
        for (Call call : calls) {
            told.add(call.of(x));
        }
        return told;
    }
}
