/** Promises 56 to 58 by their sentences: days, counts, trouble; and the 512 calls of an object. */
public final class DaysTest {
    private static final int NO_INT = Integer.MIN_VALUE;

    public static void main(String[] args) {
        passing();
        counts();
        troubles();
        untroubled();
        allCalls();
        Check.end();
    }

    private static void passing() {
        Check.says(56, "So many DAYS go by (1 .. 1,000): TODAY. NONE: 2 (also beyond 9,999).");
        GreatArc x = new GreatArc();
        int[] bad = {0, -1, 1001, NO_INT, Integer.MAX_VALUE};
        for (int days : bad) {
            Check.refused(x, "pass " + days, x.pass(days), 2);
            Check.due("TODAY", x.count(11), 0);
        }
        Check.told(x, "one day", x.pass(1), 1);
        for (int i = 1; i <= 9; i++) {
            Check.told(x, "1,000 days", x.pass(1000), 1 + 1000 * i);
        }
        Check.refused(x, "beyond 9,999", x.pass(999), 2);
        Check.refused(x, "beyond 9,999", x.pass(1000), 2);
        Check.due("TODAY", x.count(11), 9001);
        Check.told(x, "up to it", x.pass(998), 9999);
        Check.refused(x, "one day more", x.pass(1), 2);
        Check.due("TODAY", x.count(11), 9999);
    }

    private static void counts() {
        Check.says(57, "0 MARKS, 1 ANGLES, 2 READINGS, 3 RULES, 4 BASES, 5 TRIANGLES, 6 ROUNDS, 7 PARTIES, 8 STARS, 9 LEVELS, "
            + "10 suspects, 11 TODAY, 12 bytes of THE TAPE, 13 ANGLES that are AGAIN. NONE for others.");
        int[] want = {5, 7, 12, 4, 3, 2, 1, 3, 2, 3, 2, 2, 20, 1};
        GreatArc x = Room.ready();
        for (int what = 0; what < want.length; what++) {
            Check.due("count(" + what + ")", x.count(what), want[what]);
        }
        int[] others = {-1, 14, NO_INT, Integer.MAX_VALUE};
        for (int what : others) {
            Check.due("count(" + what + ")", x.count(what), -1);
        }
        x.clear();
        Check.due("no suspects", x.count(10), 0);
        x.strike(3, 0, true);
        Check.due("one more is AGAIN", x.count(13), 2);
        Check.told(x, "what THE TAPE has", x.rule(7, 0, 0), 4);
        Check.rule(x, "again if at=0");
        Check.due("those at mark 0 are", x.count(13), 3);
        Check.due("THE TAPE", x.count(12), 0);
    }

    private static void troubles() {
        Check.says(58, "XI. TROUBLE of the latest call that may be refused: 0 it wasn't; 1 there is none such; 2 a number; "
            + "3 no room; 4 a FAULT; 5 not so (MARKS that aren't so, no CHIEF, not KEPT, no MEAN, already); "
            + "6 CONDITIONS hang on one another; 7 too many.");
        Check.due("at first", new GreatArc().trouble(), 0);
        GreatArc x = Room.ready();
        Check.told(x, "it wasn't", x.lamp(0, true));
        Check.refused(x, "none such", x.tower(5, 1), 1);
        Check.refused(x, "a number", x.tower(0, 100), 2);
        Check.refused(x, "a fault: clo", x.rule(3, 0, 0), 4);
        Check.refused(x, "a mark twice", x.base(1, 1, 0), 5);
        Check.refused(x, "no chief", x.strike(2, 1, true), 5);
        Check.refused(x, "not kept", x.suspect(7), 5);
        Check.refused(x, "no mean", x.adjust(3, 0), 5);
        Check.refused(x, "already", x.strike(7, 0, true), 5);
        x.strike(7, 0, false);
        x.triangle(0, 1, 2, 4);
        Check.read(x, 6, 2160000);
        Check.refused(x, "hanging", x.adjust(5, 0), 6);
        for (int t = 3; t < 9; t++) {
            x.triangle(0, 1, 2, t);
        }
        Check.refused(x, "too many", x.adjust(127, 0), 7);
        Check.refused(x, "too many", x.chain(0, 0, 1), 7);
        for (int p = 3; p < 8; p++) {
            x.party(false);
        }
        Check.refused(x, "no room", x.party(false), 3);
        Check.says(58, "TROUBLE.");
        Check.due("asked again", x.trouble(), 3);
        Check.told(x, "one that isn't refused", x.pass(1), 3);
        neverRefused();
    }

    /** What names no trouble leaves it alone, whether it tells NONE or not. */
    private static void neverRefused() {
        Check.says(58, "TROUBLE of the latest call that may be refused:");
        Room.Call[] calls = {x -> x.see(0, 9, 0, 0), x -> x.reading(0, 99), x -> x.angleOf(99, 0), x -> x.known(0, 99),
            x -> Check.throwsNoSuch(x, 0, 99) ? 1 : 0, x -> x.feed(0, 0, 0, 0, 0), x -> x.fault(), x -> x.where(), x -> x.told(9),
            x -> x.baseOf(0, 9), x -> x.miss(9, false), x -> x.miss(9, true), x -> x.well(9), x -> x.wide(), x -> x.change(99),
            x -> x.part(99, true), x -> x.cost(), x -> x.sine(-1), x -> x.link(99), x -> x.side(true), x -> x.clear(),
            x -> x.blunder(), x -> x.guilty(99), x -> x.rivals(), x -> x.north(0, 0), x -> x.steps(0, 0), x -> x.between(0, 0),
            x -> x.doubt(0, 0), x -> x.pull(9, true), x -> x.figure(true), x -> x.count(99)};
        GreatArc x = Room.ready();
        for (int i = 0; i < 14; i++) {
            x.feed(0, 0, 0, 0, 0);
        }
        for (int trouble = 0; trouble <= 2; trouble++) {
            boolean told = trouble == 0 ? x.growth(11) : trouble == 1 ? x.lamp(99, true) : x.growth(99);
            Check.due("told or refused", told, trouble == 0);
            for (int i = 0; i < calls.length; i++) {
                calls[i].of(x);
                Check.due("trouble behind call " + i, x.trouble(), trouble);
            }
        }
    }

    /** Each call that may be refused, not refused behind one that was. */
    private static void untroubled() {
        Check.says(58, "TROUBLE of the latest call that may be refused: 0 it wasn't;");
        Room.Call[] sound = {x -> x.cell(0, 0, 0) ? 1 : 0, x -> x.mark(700), x -> x.tower(0, 1) ? 1 : 0,
            x -> x.lamp(0, true) ? 1 : 0, x -> x.haze(0, 0, 0) ? 1 : 0, x -> x.party(true), x -> x.angle(0, 1, 2),
            x -> x.read(0, 0, 0, 0), x -> x.strike(1, 0, true) ? 1 : 0, x -> x.rule(7, 0, 0), x -> x.force(0, 0, 0) ? 1 : 0,
            x -> x.base(3, 4, 0), x -> x.bar(0, 1000, 0, 0), x -> x.growth(1) ? 1 : 0, x -> x.triangle(0, 1, 2, 0),
            x -> x.round(0, 3, -1, 0, 0, 0), x -> x.adjust(1, 0), x -> x.chain(0, 0, 1), x -> x.strike(7, 0, false) ? x.close(0, 1) : -1,
            x -> x.check(0, 0, 1, 0, -1, 0, 0, 0, 0), x -> x.suspect(2), x -> x.star(0, 1, 0, 0), x -> x.level(0, 1, 0, 0),
            x -> x.mass(0, 1), x -> x.arc(0, 1), x -> x.pass(1)};
        for (int i = 0; i < sound.length; i++) {
            GreatArc x = Room.ready();
            x.mark(-1);
            Check.due("call " + i + " isn't refused", sound[i].of(x) >= 0, true);
            Check.due("trouble behind call " + i, x.trouble(), 0);
            x.base(1, 1, 0);
            Check.due("trouble is told anew", x.trouble(), 5);
        }
    }

    private static void allCalls() {
        Check.says(58, "An object is used for at most 512 calls after it has been made; what later calls answer is free.");
        GreatArc x = new GreatArc();
        x.mark(0);
        x.mark(2);
        x.cell(1, 5, 0);
        for (int i = 0; i < 508; i++) {
            Check.due("a tower", x.tower(0, i % 2 * 9), true);
        }
        Check.due("the latest of 508 counts", x.see(0, 1, 0, 0), 0);
        GreatArc y = Check.room(3);
        y.angle(0, 1, 2);
        for (int r = 0; r < 4; r++) {
            Check.read(y, 0, 10 * r);
        }
        for (int i = 0; i < 500; i++) {
            Check.due("struck or taken back", y.strike(i % 4, 0, i / 4 % 2 == 0), true);
        }
        Check.due("all four are struck", y.angleOf(0, 4), 0);
        for (int i = 0; i < 3000; i++) {
            x.tower(i % 2, i % 100);
            x.haze(i, i % 24, 3);
            y.strike(i % 4, 0, i % 3 == 0);
            y.angleOf(0, i % 11);
            y.known(0, 0);
        }
        Check.due("later calls end, too", y.angleOf(0, 6), 4);
    }
}
