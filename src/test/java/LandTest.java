/** Promises 1 to 7: the land and what is seen over it. */
public final class LandTest {
    public static void main(String[] args) {
        newObject();
        cells();
        marks();
        towers();
        lampsAndHaze();
        sight();
        Check.end();
    }

    private static void newObject() {
        GreatArc x = new GreatArc();
        for (int what = 0; what <= 13; what++) {
            Check.due(1, "count(" + what + ")", x.count(what), 0);
        }
        Check.due(1, "trouble()", x.trouble(), 0);
        Check.due(1, "fault()", x.fault(), 0);
        Check.due(1, "where()", x.where(), -1);
        Check.due(1, "side(true)", x.side(true), -1);
        Check.due(1, "side(false)", x.side(false), -1);
        Check.due(1, "link(0)", x.link(0), -1);
        Check.due(1, "rivals()", x.rivals(), 0);
        Check.due(1, "guilty(0)", x.guilty(0), -1);
        Check.due(1, "cost()", x.cost(), Long.MIN_VALUE);
        x.mark(0);
        x.mark(31);
        // flat land: at k = 1 the earth is 1 * 30 / 4 high already, and the line 5
        Check.due(1, "see over the round earth", x.see(0, 1, 0, 0), 1 + 1);
    }

    private static void cells() {
        GreatArc x = new GreatArc();
        Check.told(2, x, "cell(0, 0, 0)", x.cell(0, 0, 0));
        Check.told(2, x, "cell(1023, 2000, 90)", x.cell(1023, 2000, 90));
        Check.refused(2, x, "cell(-1)", x.cell(-1, 0, 0), 1);
        Check.refused(2, x, "cell(1024)", x.cell(1024, 0, 0), 1);
        Check.refused(2, x, "cell(1024, -1)", x.cell(1024, -1, 0), 1);
        Check.refused(2, x, "height -1", x.cell(5, -1, 0), 2);
        Check.refused(2, x, "height 2001", x.cell(5, 2001, 0), 2);
        Check.refused(2, x, "trees -1", x.cell(5, 0, -1), 2);
        Check.refused(2, x, "trees 91", x.cell(5, 0, 91), 2);
    }

    private static void marks() {
        GreatArc x = new GreatArc();
        for (int m = 0; m < 30; m++) {
            Check.told(3, x, "mark " + m, x.mark(1023 - m), m);
        }
        Check.refused(3, x, "a cell that has one", x.mark(1000), 5);
        Check.refused(3, x, "a 31st", x.mark(0), 3);
        Check.refused(3, x, "mark(-1)", x.mark(-1), 1);
        Check.refused(3, x, "mark(1024)", x.mark(1024), 1);
        Check.due(3, "count(0)", x.count(0), 30);
    }

    private static void towers() {
        GreatArc x = new GreatArc();
        x.mark(0);
        x.mark(4);
        x.cell(2, 10, 0);
        Check.refused(4, x, "no mark", x.tower(2, 1), 1);
        Check.refused(4, x, "too high", x.tower(1, 100), 2);
        Check.refused(4, x, "below none", x.tower(1, -1), 2);
        x.pass(3);
        // at k = 2 there are 10 and 1: the line (5 + 5 + tower) / 2 must be 12 at least
        Check.told(4, x, "tower(1, 13)", x.tower(1, 13));
        Check.due(4, "13 is not enough", x.see(0, 1, 3, 9), 3);
        Check.told(4, x, "tower(1, 14)", x.tower(1, 14));
        Check.due(4, "14 is", x.see(0, 1, 3, 9), 0);
        Check.due(4, "not on the day ahead", x.see(0, 1, 2, 9), 3);
        Check.due(4, "later still", x.see(0, 1, 9999, 9), 0);
        x.pass(1);
        Check.told(4, x, "tower(1, 0)", x.tower(1, 0));
        Check.due(4, "no tower any more", x.see(0, 1, 4, 9), 3);
        Check.due(4, "but on its day", x.see(0, 1, 3, 9), 0);
        x.tower(0, 99);
        Check.due(4, "the other's tower", x.see(0, 1, 4, 9), 0);
    }

    private static void lampsAndHaze() {
        GreatArc x = new GreatArc();
        x.mark(0);
        x.mark(4);
        Check.refused(5, x, "no mark", x.lamp(2, true), 1);
        Check.refused(6, x, "day", x.haze(10000, 0, 3), 2);
        Check.refused(6, x, "day -1", x.haze(-1, 0, 3), 2);
        Check.refused(6, x, "hour", x.haze(0, 24, 3), 2);
        Check.refused(6, x, "reach", x.haze(0, 0, 33), 2);
        for (int hour = 0; hour < 24; hour++) {
            Check.told(6, x, "haze", x.haze(7, hour, 2));
        }
        Check.told(5, x, "lamp", x.lamp(1, true));
        for (int hour = 0; hour < 24; hour++) {
            boolean dark = hour < 5 || hour > 19;
            Check.due(5, "to the lamp at " + hour, x.see(0, 1, 7, hour), dark ? 0 : 1);
            Check.due(5, "from the lamp at " + hour, x.see(1, 0, 7, hour), 1);
        }
        Check.told(5, x, "no lamp", x.lamp(1, false));
        Check.due(5, "without it", x.see(0, 1, 7, 0), 1);
        Check.told(6, x, "told anew", x.haze(7, 0, 4));
        Check.due(6, "then it reaches", x.see(0, 1, 7, 0), 0);
        Check.told(6, x, "reach 0", x.haze(7, 0, 0));
        Check.due(6, "then it doesn't", x.see(0, 1, 7, 0), 1);
        Check.due(6, "another day has no haze", x.see(0, 1, 8, 0), 0);
        int told = 24;
        for (int day = 100; told < 200; day++) {
            x.haze(day, 5, 1);
            told++;
        }
        Check.refused(6, x, "a 201st", x.haze(99, 5, 1), 3);
        Check.told(6, x, "one of the 200 anew", x.haze(100, 5, 32));
    }

    private static void sight() {
        GreatArc x = new GreatArc();
        x.mark(0);
        x.mark(2 * 32 + 5);
        Check.due(7, "to itself", x.see(0, 0, 0, 0), -1);
        Check.due(7, "no mark", x.see(0, 2, 0, 0), -1);
        Check.due(7, "no mark", x.see(-1, 0, 0, 0), -1);
        Check.due(7, "day", x.see(0, 1, -1, 0), -1);
        Check.due(7, "hour", x.see(0, 1, 0, 24), -1);
        x.haze(0, 0, 4);
        Check.due(7, "5 is beyond 4", x.see(0, 1, 0, 0), 1);
        x.haze(0, 0, 5);
        Check.due(7, "5 is within 5", x.see(0, 1, 0, 0), 0);
        // halves of y: (2 k 2 + 5) / 10 is 0, 1, 1, 2 for k of 1 to 4; backwards (5 - 4 k) / 10 is 0, -1, -1, -2
        int[] there = {1, 32 + 2, 32 + 3, 64 + 4};
        for (int k = 1; k <= 4; k++) {
            x.cell(there[k - 1], 90, 0);
            Check.due(7, "at k " + k, x.see(0, 1, 0, 1), 1 + k);
            Check.due(7, "back at k " + k, x.see(1, 0, 0, 1), 1 + 5 - k);
            x.cell(there[k - 1], 0, 0);
        }
        Check.due(7, "free again", x.see(0, 1, 0, 1), 0);
        x.cell(there[1], 2, 1);
        // 2 and 1 and 2 * 3 / 4 are 4, below the line of 5
        Check.due(7, "trees below the line", x.see(0, 1, 0, 1), 0);
        x.cell(there[1], 2, 2);
        Check.due(7, "trees at the line", x.see(0, 1, 0, 1), 3);
        x.cell(0, 1, 90);
        // trees on the mark's own cell don't matter, its height does: (6 * 3 + 5 * 2) / 5 is 5
        Check.due(7, "a line cut downwards", x.see(0, 1, 0, 1), 3);
        x.cell(0, 2, 90);
        x.cell(2 * 32 + 5, 1, 0);
        Check.due(7, "(7 * 3 + 6 * 2) / 5 is 6", x.see(0, 1, 0, 1), 0);
        Check.due(7, "see leaves trouble alone", x.mark(0), -1);
        x.see(0, 1, 0, 1);
        Check.due(7, "trouble()", x.trouble(), 5);
    }
}
