/** Promises 1 to 7 by their sentences: the land and what is seen over it. */
public final class LandTest {
    public static void main(String[] args) {
        newObject();
        bounds();
        cells();
        marks();
        towers();
        haze();
        lamps();
        inReach();
        wayOver();
        line();
        answers();
        Check.end();
    }

    /** Marks on these cells of flat land. */
    private static GreatArc on(int... cells) {
        GreatArc x = new GreatArc();
        for (int cell : cells) {
            x.mark(cell);
        }
        return x;
    }

    private static int at(int x, int y) {
        return y * 32 + x;
    }

    private static void newObject() {
        Check.says(1, "Flat LAND without MARKS; DAY 0.");
        GreatArc x = new GreatArc();
        Check.due("MARKS", x.count(0), 0);
        Check.due("TODAY", x.count(11), 0);
        Check.refused(x, "a tower on no mark", x.tower(0, 1), 1);
        Check.told(x, "a day later", x.pass(1), 1);
        GreatArc y = new GreatArc();
        for (int what = 0; what <= 13; what++) {
            Check.due("count(" + what + ")", y.count(what), 0);
        }
        Check.due("trouble()", y.trouble(), 0);
        Check.due("fault()", y.fault(), 0);
        Check.due("where()", y.where(), -1);
        Check.due("side()", y.side(true) + y.side(false), -2);
        Check.due("link(0)", y.link(0), -1);
        Check.due("guilty(0)", y.guilty(0), -1);
        Check.due("rivals()", y.rivals(), 0);
        Check.due("cost()", y.cost(), Long.MIN_VALUE);
        Check.due("figure()", y.figure(false), Long.MIN_VALUE);
        // flat: 5 is the line all along, and the earth k (n - k) / 4
        Check.due("over 8 cells: 4 at most", on(0, 8).see(0, 1, 0, 0), 0);
        Check.due("over 9 cells: 4 * 5 / 4 at k 4", on(0, 9).see(0, 1, 0, 0), 1 + 4);
        Check.says(1, "`NONE = -1`: There is none; refused.");
        Check.due("NONE", GreatArc.NONE, -1);
        Check.says(1, "II. LAND:");
        Check.due("a mark on it", x.mark(5), 0);
    }

    private static void bounds() {
        Check.says(2, "LAND 32 by 32 CELLS (y * 32 + x);");
        GreatArc x = on(31, 32, 63);
        Check.told(x, "the last cell", x.cell(1023, 1, 1));
        Check.refused(x, "one behind it", x.cell(1024, 1, 1), 1);
        Check.refused(x, "one ahead of the first", x.cell(-1, 1, 1), 1);
        x.haze(0, 0, 30);
        x.haze(0, 1, 1);
        Check.due("cells 31 and 32 are 31 apart by x", x.see(0, 1, 0, 0), 1);
        Check.due("cells 31 and 63 are 1 apart by y", x.see(0, 2, 0, 1), 0);
        Check.says(6, "DAYS 0 .. 9,999 (TODAY 0 at first), HOURS 0 .. 23.");
        GreatArc y = on(0, 1);
        int[][] times = {{0, 0}, {9999, 23}, {-1, 0}, {10000, 0}, {0, -1}, {0, 24}};
        for (int i = 0; i < times.length; i++) {
            int day = times[i][0];
            int hour = times[i][1];
            boolean is = i < 2;
            Check.due("see of day " + day + ", hour " + hour, y.see(0, 1, day, hour), is ? 0 : -1);
            Check.due("haze of day " + day + ", hour " + hour, y.haze(day, hour, 5), is);
            Check.due("trouble of it", y.trouble(), is ? 0 : 2);
        }
        Check.due("TODAY", y.count(11), 0);
    }

    /** What is seen from cell 0 to cell 2 over cell 1 as it is told: the line is 5, the earth 0. */
    private static int over(int height, int trees) {
        GreatArc x = on(0, 2);
        x.cell(1, height, trees);
        return x.see(0, 1, 0, 0);
    }

    private static void cells() {
        Check.says(2, "of a CELL a height (0 .. 2,000; 0 at first) and trees (0 .. 90).");
        Check.due("as at first", on(0, 2).see(0, 1, 0, 0), 0);
        Check.due("height 4 is below 5", over(4, 0), 0);
        Check.due("height 5 isn't", over(5, 0), 2);
        Check.due("trees of 4", over(0, 4), 0);
        Check.due("trees of 5", over(0, 5), 2);
        Check.due("2 and 2", over(2, 2), 0);
        Check.due("2 and 3", over(2, 3), 2);
        GreatArc x = on(0, 2);
        x.cell(0, 2000, 0);
        x.cell(2, 2000, 90);
        Check.told(x, "2,000 and 4", x.cell(1, 2000, 4));
        Check.due("below a line of 2,005", x.see(0, 1, 0, 0), 0);
        Check.told(x, "1,915 and 90", x.cell(1, 1915, 90));
        Check.due("at a line of 2,005", x.see(0, 1, 0, 0), 2);
        Check.told(x, "0 and 0", x.cell(1, 0, 0));
        Check.due("flat again", x.see(0, 1, 0, 0), 0);
        Check.says(2, "A CELL's height and trees: true; false: 1; 2.");
        int[][] bad = {{1024, 9, 9, 1}, {-1, 9, 9, 1}, {1, 2001, 0, 2}, {1, -1, 9, 2}, {1, 9, -1, 2}, {1, 0, 91, 2},
            {1, Integer.MAX_VALUE, 9, 2}, {1, 9, Integer.MAX_VALUE, 2}};
        for (int[] b : bad) {
            Check.refused(x, "cell " + b[0] + " of " + b[1] + " and " + b[2], x.cell(b[0], b[1], b[2]), b[3]);
            Check.due("nothing told by it", x.see(0, 1, 0, 0), 0);
        }
        Check.told(x, "and one that is told", x.cell(1, 5, 0));
    }

    private static void marks() {
        Check.says(3, "I. BOUNDS. MARKS 30,");
        GreatArc x = new GreatArc();
        for (int m = 0; m < 30; m++) {
            Check.told(x, "mark " + m, x.mark(m == 29 ? 1023 : m), m);
        }
        Check.refused(x, "a 31st", x.mark(500), 3);
        Check.due("it isn't there", x.count(0), 30);
        Check.due("nor is seen", x.see(0, 30, 0, 0), -1);
        Check.told(x, "the 30th may have a tower", x.tower(29, 1));
        Check.says(3, "A MARK stands on a CELL (no two on one).");
        GreatArc y = on(7);
        Check.refused(y, "a second one", y.mark(7), 5);
        Check.told(y, "beside it", y.mark(8), 1);
        Check.refused(y, "a third one", y.mark(7), 5);
        Check.due("MARKS", y.count(0), 2);
        Check.says(3, "A MARK on a CELL: its number. NONE: 1; 5; 3.");
        Check.refused(y, "behind the last cell", y.mark(1024), 1);
        Check.refused(y, "ahead of the first", y.mark(-1), 1);
        Check.told(y, "the last cell", y.mark(1023), 2);
        Check.told(y, "the first cell", y.mark(0), 3);
    }

    private static void towers() {
        Check.says(4, "A TOWER on a MARK: so high (1 .. 99) from a DAY on (the latest told counts; 0 ahead of any).");
        GreatArc x = on(0, 2);
        x.cell(1, 5, 0);
        Check.due("ahead of any", x.see(0, 1, 0, 0), 2);
        x.pass(5);
        Check.told(x, "a tower of 1", x.tower(0, 1));
        // (6 + 5) / 2 is 5 downwards
        Check.due("1 is not enough", x.see(0, 1, 5, 0), 2);
        Check.told(x, "a tower of 2", x.tower(0, 2));
        Check.due("the latest of a day", x.see(0, 1, 5, 0), 0);
        Check.due("the day ahead of it", x.see(0, 1, 4, 0), 2);
        Check.due("any day later", x.see(0, 1, 9999, 0), 0);
        x.pass(1);
        Check.told(x, "a tower of 1", x.tower(0, 1));
        Check.due("the latest counts, not the highest", x.see(0, 1, 6, 0), 2);
        Check.due("that of the day ahead", x.see(0, 1, 5, 0), 0);
        x.cell(1, 53, 0);
        Check.told(x, "a tower of 99 on the other", x.tower(1, 99));
        x.tower(0, 0);
        Check.due("(5 + 104) / 2 is 54", x.see(0, 1, 6, 0), 0);
        x.cell(1, 54, 0);
        Check.due("54 is not below it", x.see(0, 1, 6, 0), 2);
        GreatArc y = on(0, 2, 4);
        y.cell(3, 5, 0);
        y.tower(0, 99);
        Check.due("a tower on another mark", y.see(1, 2, 0, 0), 2);
        y.tower(2, 2);
        y.tower(0, 0);
        Check.due("a tower on this one", y.see(1, 2, 0, 0), 0);
        Check.says(4, "A TOWER from TODAY on (0: none): true; false: 1; 2.");
        Check.told(x, "none", x.tower(1, 0));
        x.cell(1, 5, 0);
        Check.due("none from today on", x.see(0, 1, 6, 0), 2);
        Check.refused(x, "no such mark", x.tower(2, 5), 1);
        Check.refused(x, "no such mark", x.tower(-1, 5), 1);
        Check.refused(x, "too high", x.tower(0, 100), 2);
        Check.refused(x, "below none", x.tower(0, -1), 2);
        Check.due("nothing told by these", x.see(0, 1, 6, 0), 2);
        Check.told(x, "one that is told", x.tower(0, 99));
        Check.due("it is there", x.see(0, 1, 6, 0), 0);
    }

    private static void haze() {
        Check.says(6, "HAZE of a DAY and HOUR: REACH (0 .. 32; 32 until told).");
        GreatArc x = on(0, 1, 2, 31);
        x.cell(0, 2000, 0);
        x.cell(31, 2000, 0);
        Check.due("31 is within 32", x.see(0, 3, 0, 0), 0);
        Check.told(x, "0", x.haze(0, 0, 0));
        Check.due("1 is beyond 0", x.see(0, 1, 0, 0), 1);
        Check.due("another hour", x.see(0, 1, 0, 1), 0);
        Check.due("another day", x.see(0, 1, 1, 0), 0);
        Check.told(x, "1", x.haze(0, 0, 1));
        Check.due("1 is within 1", x.see(0, 1, 0, 0), 0);
        Check.due("2 is beyond 1", x.see(0, 2, 0, 0), 1);
        Check.told(x, "30", x.haze(0, 0, 30));
        Check.due("31 is beyond 30", x.see(0, 3, 0, 0), 1);
        Check.told(x, "32", x.haze(0, 0, 32));
        Check.due("31 is within 32", x.see(0, 3, 0, 0), 0);
        Check.says(6, "REACH of a DAY and HOUR: true; false: 2; 3 (200 told).");
        int[][] bad = {{0, 0, 33}, {0, 0, -1}, {-1, 0, 0}, {10000, 0, 0}, {0, 24, 0}, {0, -1, 0},
            {0, 0, Integer.MIN_VALUE}, {Integer.MAX_VALUE, 0, 0}, {0, Integer.MAX_VALUE, 0}};
        for (int[] b : bad) {
            Check.refused(x, "haze of " + b[0] + ", " + b[1] + ": " + b[2], x.haze(b[0], b[1], b[2]), 2);
        }
        Check.due("nothing told by these", x.see(0, 3, 0, 0), 0);
        for (int i = 1; i < 200; i++) {
            Check.told(x, "the haze of day " + i, x.haze(i, 23, 0));
        }
        Check.refused(x, "a 201st", x.haze(200, 23, 0), 3);
        Check.refused(x, "of another hour", x.haze(199, 22, 0), 3);
        Check.due("not told", x.see(0, 1, 200, 23), 0);
        Check.due("the 200th is", x.see(0, 1, 199, 23), 1);
        Check.told(x, "the 200th anew", x.haze(199, 23, 1));
        Check.due("as told anew", x.see(0, 1, 199, 23), 0);
    }

    private static void lamps() {
        Check.says(5, "A LAMP on a MARK, or none.");
        GreatArc x = on(0, 2);
        x.haze(3, 4, 1);
        Check.due("none at first", x.see(0, 1, 3, 4), 1);
        x.lamp(1, true);
        Check.due("a lamp", x.see(0, 1, 3, 4), 0);
        x.lamp(1, true);
        Check.due("a lamp still", x.see(0, 1, 3, 4), 0);
        x.lamp(1, false);
        Check.due("none", x.see(0, 1, 3, 4), 1);
        Check.says(5, "A LAMP on a MARK, or none: true; false (1).");
        Check.refused(x, "no such mark", x.lamp(2, true), 1);
        Check.refused(x, "no such mark", x.lamp(-1, false), 1);
        Check.told(x, "a lamp", x.lamp(1, true));
        x.mark(-1);
        Check.told(x, "none", x.lamp(1, false));
    }

    private static void inReach() {
        Check.says(7, "SIGHT from a MARK to another one on a DAY at an HOUR: n is the greater of how far they are by x and by y.");
        int[][] apart = {{4, 0}, {-4, 0}, {0, 4}, {0, -4}, {4, 1}, {-4, 1}, {4, -1}, {-4, -1}, {1, 4}, {-1, 4}, {1, -4},
            {-1, -4}, {4, 4}, {-4, 4}, {4, -4}, {-4, -4}, {-4, 3}, {-3, -4}};
        for (int[] d : apart) {
            GreatArc x = on(at(16, 16), at(16 + d[0], 16 + d[1]));
            x.haze(0, 9, 3);
            x.haze(0, 10, 4);
            Check.due("3 by " + d[0] + " and " + d[1], x.see(0, 1, 0, 9), 1);
            Check.due("4 by " + d[0] + " and " + d[1], x.see(0, 1, 0, 10), 0);
        }
        Check.says(7, "It is in REACH if n is no more than REACH (twice it if the other one has a LAMP and the HOUR is below "
            + "5 or above 19).");
        GreatArc x = on(0, 4, 5);
        x.lamp(1, true);
        x.lamp(2, true);
        for (int hour = 0; hour < 24; hour++) {
            boolean twice = hour < 5 || hour > 19;
            x.haze(0, hour, 2);
            x.haze(1, hour, 3);
            Check.due("4 at hour " + hour, x.see(0, 1, 0, hour), twice ? 0 : 1);
            Check.due("5 is beyond twice 2", x.see(0, 2, 0, hour), 1);
            Check.due("5 is within twice 3", x.see(0, 2, 1, hour), twice ? 0 : 1);
            Check.due("a lamp on the one", x.see(1, 0, 0, hour), 1);
        }
        x.haze(0, 0, 0);
        Check.due("twice 0", on(0, 1).see(0, 1, 0, 0), 0);
        GreatArc y = on(0, 1);
        y.lamp(1, true);
        y.haze(0, 0, 0);
        Check.due("twice 0 is 0", y.see(0, 1, 0, 0), 1);
        y.haze(0, 20, 0);
        y.haze(0, 20, 1);
        Check.due("twice 1", y.see(0, 1, 0, 20), 0);
    }

    private static void wayOver() {
        Check.says(7, "For k from 1 to n - 1 the CELL at (x + (2 k dx + n) / 2n, y + (2 k dy + n) / 2n), / downwards;");
        // neighbours have no k between them, and what stands on their own cells is in nobody's way
        int[][] beside = {{1, 0}, {-1, 0}, {0, 1}, {0, -1}, {1, 1}, {-1, 1}, {1, -1}, {-1, -1}};
        for (int[] d : beside) {
            GreatArc x = on(at(16, 16), at(16 + d[0], 16 + d[1]));
            x.cell(at(16, 16), 0, 90);
            x.cell(at(16 + d[0], 16 + d[1]), 2000, 90);
            Check.due("beside by " + d[0] + " and " + d[1], x.see(0, 1, 0, 9), 0);
            Check.due("back", x.see(1, 0, 0, 9), 0);
        }
        GreatArc two = on(0, 2);
        two.cell(0, 0, 90);
        two.cell(2, 0, 90);
        Check.due("trees of both ends", two.see(0, 1, 0, 9), 0);
        // halves go up: (4 k + 5) / 10 is 0, 1, 1, 2, and (5 - 4 k) / 10 is 0, -1, -1, -2
        way(5, 2, new int[][] {{1, 0}, {2, 1}, {3, 1}, {4, 2}});
        way(5, -2, new int[][] {{1, 0}, {2, -1}, {3, -1}, {4, -2}});
        way(-5, 2, new int[][] {{-1, 0}, {-2, 1}, {-3, 1}, {-4, 2}});
        way(-5, -2, new int[][] {{-1, 0}, {-2, -1}, {-3, -1}, {-4, -2}});
        way(2, 5, new int[][] {{0, 1}, {1, 2}, {1, 3}, {2, 4}});
        way(-2, -5, new int[][] {{0, -1}, {-1, -2}, {-1, -3}, {-2, -4}});
        // (4 k + 4) / 8 is 1, 1, 2, and (4 - 4 k) / 8 is 0, -1, -1
        way(4, 2, new int[][] {{1, 1}, {2, 1}, {3, 2}});
        way(4, -2, new int[][] {{1, 0}, {2, -1}, {3, -1}});
        way(-4, 2, new int[][] {{-1, 1}, {-2, 1}, {-3, 2}});
        way(2, -4, new int[][] {{1, -1}, {1, -2}, {2, -3}});
        way(-2, 4, new int[][] {{0, 1}, {-1, 2}, {-1, 3}});
        way(4, 4, new int[][] {{1, 1}, {2, 2}, {3, 3}});
        way(0, -4, new int[][] {{0, -1}, {0, -2}, {0, -3}});
        way(4, 0, new int[][] {{1, 0}, {2, 0}, {3, 0}});
    }

    /** Each cell of the way alone is in the way, and all other cells about it together are not. */
    private static void way(int dx, int dy, int[][] cells) {
        GreatArc x = on(at(16, 16), at(16 + dx, 16 + dy));
        for (int cx = 10; cx <= 22; cx++) {
            for (int cy = 10; cy <= 22; cy++) {
                x.cell(at(cx, cy), 2000, 90);
            }
        }
        int[][] ends = {{0, 0}, {dx, dy}};
        for (int[] end : ends) {
            x.cell(at(16 + end[0], 16 + end[1]), 0, 0);
        }
        for (int[] c : cells) {
            x.cell(at(16 + c[0], 16 + c[1]), 0, 0);
        }
        Check.due("free of all other cells", x.see(0, 1, 0, 0), 0);
        for (int k = 1; k <= cells.length; k++) {
            int cell = at(16 + cells[k - 1][0], 16 + cells[k - 1][1]);
            x.cell(cell, 2000, 0);
            Check.due("by " + dx + " and " + dy + " at k " + k, x.see(0, 1, 0, 0), 1 + k);
            x.cell(cell, 0, 0);
        }
    }

    /** What is seen from cell 0, so high, to cell n, so high, over a cell at k, so high. */
    private static int seen(int n, int one, int other, int k, int height) {
        GreatArc x = on(0, n);
        x.cell(0, one, 0);
        x.cell(n, other, 0);
        x.cell(k, height, 0);
        return x.see(0, 1, 0, 0);
    }

    private static void line() {
        Check.says(7, "there land, trees and k (n - k) / 4 (downwards, for the round earth) together must be below the line: "
            + "(top of the one times (n - k) and top of the other times k) by n, downwards;");
        Check.due("n 3: 2 / 4 is 0, and 4 is below 5", seen(3, 0, 0, 1, 4), 0);
        Check.due("5 isn't", seen(3, 0, 0, 1, 5), 2);
        Check.due("n 4: 4 / 4 is 1", seen(4, 0, 0, 2, 3), 0);
        Check.due("1 and 4", seen(4, 0, 0, 2, 4), 3);
        Check.due("n 5: 6 / 4 is 1 downwards", seen(5, 0, 0, 2, 3), 0);
        Check.due("1 and 4", seen(5, 0, 0, 3, 4), 4);
        Check.due("n 6: 9 / 4 is 2 downwards", seen(6, 0, 0, 3, 2), 0);
        Check.due("2 and 3", seen(6, 0, 0, 3, 3), 4);
        // tops of 8 and 5 over 3: 7 and 6
        Check.due("6 below 7", seen(3, 3, 0, 1, 6), 0);
        Check.due("7 at 7", seen(3, 3, 0, 1, 7), 2);
        Check.due("5 below 6", seen(3, 3, 0, 2, 5), 0);
        Check.due("6 at 6", seen(3, 3, 0, 2, 6), 3);
        Check.due("the other way: 5 below 6", seen(3, 0, 3, 1, 5), 0);
        Check.due("6 at 6", seen(3, 0, 3, 1, 6), 2);
        // tops of 6 and 5 over 3: 17 / 3 is 5 downwards
        Check.due("4 below 5", seen(3, 1, 0, 1, 4), 0);
        Check.due("5 at 5", seen(3, 1, 0, 1, 5), 2);
        Check.says(7, "top: height of its CELL, 5, and its TOWER that DAY.");
        GreatArc x = on(0, 2);
        x.pass(2);
        x.tower(0, 4);
        x.cell(0, 2, 90);
        x.cell(2, 1, 90);
        // 11 and 6 with the tower, 7 and 6 without it
        x.cell(1, 7, 0);
        Check.due("17 / 2 is 8", x.see(0, 1, 2, 0), 0);
        Check.due("13 / 2 is 6 a day ahead", x.see(0, 1, 1, 0), 2);
        x.cell(1, 8, 0);
        Check.due("8 at 8", x.see(0, 1, 2, 0), 2);
        x.cell(1, 5, 0);
        Check.due("5 below 6", x.see(0, 1, 1, 0), 0);
        Check.due("back, too", x.see(1, 0, 1, 0), 0);
    }

    private static void answers() {
        Check.says(7, "SIGHT: 0 it sees; 1 it is not in REACH; else 1 and the least k at which something stands in its way; NONE.");
        GreatArc x = on(0, 6);
        Check.due("it sees", x.see(0, 1, 0, 0), 0);
        x.cell(2, 90, 0);
        x.cell(5, 90, 0);
        Check.due("the least of 2 and 5", x.see(0, 1, 0, 0), 3);
        Check.due("from the other end 1 and 4", x.see(1, 0, 0, 0), 2);
        x.haze(0, 0, 5);
        Check.due("not in reach comes first", x.see(0, 1, 0, 0), 1);
        int[][] none = {{0, 0, 0, 0}, {0, 2, 0, 0}, {2, 0, 0, 0}, {-1, 1, 0, 0}, {0, -1, 0, 0}, {0, 1, -1, 0},
            {0, 1, 10000, 0}, {0, 1, 0, -1}, {0, 1, 0, 24}, {Integer.MIN_VALUE, 1, 0, 0}, {0, Integer.MAX_VALUE, 0, 0}};
        for (int[] n : none) {
            Check.due("see " + n[0] + " " + n[1] + " " + n[2] + " " + n[3], x.see(n[0], n[1], n[2], n[3]), -1);
        }
    }
}
