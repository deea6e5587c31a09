/** Promises 56 to 58: days go by, counts, trouble. */
public final class DaysTest {
    public static void main(String[] args) {
        passing();
        counts();
        trouble();
        Check.end();
    }

    private static void passing() {
        GreatArc x = new GreatArc();
        Check.refused(56, x, "no days", x.pass(0), 2);
        Check.refused(56, x, "days back", x.pass(-1), 2);
        Check.refused(56, x, "more than 1,000", x.pass(1001), 2);
        Check.refused(56, x, "far more", x.pass(Integer.MAX_VALUE), 2);
        for (int i = 1; i <= 9; i++) {
            Check.told(56, x, "pass", x.pass(1000), 1000 * i);
        }
        Check.refused(56, x, "beyond 9,999", x.pass(1000), 2);
        Check.told(56, x, "pass", x.pass(999), 9999);
        Check.refused(56, x, "beyond 9,999", x.pass(1), 2);
        Check.due(56, "count(11)", x.count(11), 9999);
    }

    private static void counts() {
        GreatArc x = Check.room(3);
        x.angle(0, 1, 2);
        x.angle(1, 2, 0);
        x.angle(2, 0, 1);
        x.angle(0, 2, 1);
        Check.read(x, 0, 5);
        Check.read(x, 0, 6);
        Check.rule(x, "close 1");
        Check.rule(x, "close 2");
        Check.rule(x, "close 3");
        x.base(0, 1, 0);
        x.triangle(0, 1, 2, 0);
        x.triangle(0, 1, 2, 0);
        x.round(0, 3, -1, 0, 0, 0);
        x.star(0, 1, 5, 5);
        x.star(0, 1, 5, 5);
        x.level(0, 1, 5, 5);
        x.suspect(1);
        x.pass(6);
        x.feed(0, 0, 0, 0, 0);
        int[] want = {3, 4, 2, 3, 1, 2, 1, 3, 2, 1, 1, 6, 20, 3};
        for (int what = 0; what < want.length; what++) {
            Check.due(57, "count(" + what + ")", x.count(what), want[what]);
        }
        Check.due(57, "count(14)", x.count(14), -1);
        Check.due(57, "count(-1)", x.count(-1), -1);
    }

    private static void trouble() {
        GreatArc x = new GreatArc();
        Check.due(58, "at first", x.trouble(), 0);
        x.mark(-1);
        Check.due(58, "refused", x.trouble(), 1);
        Check.due(58, "it stays", x.trouble(), 1);
        // what is never refused by a number leaves it alone
        x.see(0, 1, 0, 0);
        x.reading(0, 0);
        x.angleOf(0, 0);
        x.known(0, 0);
        Check.throwsNoSuch(x, 0, 0);
        x.feed(0, 0, 0, 0, 0);
        x.fault();
        x.where();
        x.told(5);
        x.baseOf(0, 0);
        x.miss(0, false);
        x.well(0);
        x.wide();
        x.change(0);
        x.part(0, true);
        x.cost();
        x.sine(-1);
        x.link(0);
        x.side(true);
        x.clear();
        x.blunder();
        x.guilty(0);
        x.rivals();
        x.north(0, 1);
        x.steps(0, 1);
        x.between(0, 1);
        x.doubt(0, 1);
        x.pull(0, true);
        x.figure(true);
        x.count(99);
        Check.due(58, "it stays", x.trouble(), 1);
        x.pass(1);
        Check.due(58, "one that wasn't refused", x.trouble(), 0);
    }
}
