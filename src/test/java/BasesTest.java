/** Promises 22 to 25: bases of bars. */
public final class BasesTest {
    public static void main(String[] args) {
        laying();
        bars();
        joined();
        Check.end();
    }

    private static void laying() {
        GreatArc x = Check.room(5);
        Check.refused(22, x, "no mark", x.base(0, 5, 0), 1);
        Check.refused(22, x, "no mark", x.base(-1, 0, 0), 1);
        Check.refused(22, x, "no party", x.base(0, 1, 3), 1);
        Check.refused(22, x, "one mark twice", x.base(1, 1, 0), 5);
        Check.told(22, x, "base", x.base(1, 0, 0), 0);
        Check.refused(22, x, "by that party", x.base(0, 1, 0), 5);
        Check.told(22, x, "by another", x.base(0, 1, 2), 1);
        Check.refused(22, x, "two already", x.base(1, 0, 1), 5);
        for (int b = 2; b < 6; b++) {
            Check.told(22, x, "base", x.base(b % 4, 4, b / 4), b);
        }
        Check.refused(22, x, "a seventh", x.base(2, 3, 0), 3);
        Check.refused(22, x, "no room, but a mark twice", x.base(2, 2, 0), 5);
        Check.due(22, "count(4)", x.count(4), 6);
    }

    private static void bars() {
        GreatArc x = Check.room(2);
        x.base(0, 1, 0);
        Check.due(25, "no bars", x.baseOf(0, 0), 0);
        Check.due(25, "no bars", x.baseOf(0, 2), 0);
        Check.due(25, "no bars", x.baseOf(0, 3), 0);
        Check.refused(23, x, "no base", x.bar(1, 1000, 0, 0), 1);
        Check.refused(23, x, "no base", x.bar(-1, 999, 0, 0), 1);
        Check.refused(23, x, "length", x.bar(0, 999, 0, 0), 2);
        Check.refused(23, x, "length", x.bar(0, 100001, 0, 0), 2);
        Check.refused(23, x, "heat", x.bar(0, 1000, -21, 0), 2);
        Check.refused(23, x, "heat", x.bar(0, 1000, 61, 0), 2);
        Check.refused(23, x, "rise", x.bar(0, 1000, 0, -1), 2);
        Check.refused(23, x, "rise", x.bar(0, 100000, 0, 1000), 2);
        // 1,000 * 11 * 45 / 100,000 is 4; 999 * 999 / 2,000 is 499
        Check.told(23, x, "bar", x.bar(0, 1000, 60, 999), 1);
        Check.due(25, "1,000 and 4 less 499", x.baseOf(0, 0), 505);
        // 100,000 * 11 * -35 / 100,000 is -385
        Check.told(23, x, "bar", x.bar(0, 100000, -20, 0), 2);
        Check.due(25, "and 99,615", x.baseOf(0, 0), 505 + 99615);
        Check.due(25, "bars", x.baseOf(0, 1), 2);
        Check.due(25, "least", x.baseOf(0, 2), 100118);
        Check.due(25, "most", x.baseOf(0, 3), 100122);
        Check.due(25, "not laid again", x.baseOf(0, 4), 0);
        Check.due(25, "what 5", x.baseOf(0, 5), -1);
        Check.due(25, "no base", x.baseOf(1, 0), -1);
        // 1,500 * 7 * -4 / 100,000 is -0.42, toward 0
        x.base(1, 0, 1);
        x.growth(7);
        x.bar(1, 1500, 11, 0);
        Check.due(25, "toward 0", x.baseOf(1, 0), 1500);
        Check.refused(24, x, "growth -1", x.growth(-1), 2);
        Check.refused(24, x, "growth 51", x.growth(51), 2);
        Check.told(24, x, "growth 50", x.growth(50));
        // 1,500 * 50 * -4 / 100,000 is -3; 1,000 * 50 * 45 is 22.5, 100,000 * 50 * -35 is -1,750
        Check.due(24, "of all bars", x.baseOf(1, 0), 1497);
        Check.due(24, "of all bars", x.baseOf(0, 0), 1000 + 22 - 499 + 98250);
        Check.told(24, x, "growth 0", x.growth(0));
        Check.due(24, "none grow", x.baseOf(0, 0), 501 + 100000);
        for (int i = 3; i <= 40; i++) {
            Check.told(23, x, "bar", x.bar(0, 1000, 15, 0), i);
        }
        Check.refused(23, x, "a 41st", x.bar(0, 1000, 15, 0), 3);
        Check.refused(23, x, "a number ahead of no room", x.bar(0, 0, 15, 0), 2);
    }

    private static void joined() {
        GreatArc x = Check.room(3);
        x.base(0, 1, 0);
        x.base(1, 0, 1);
        x.base(1, 2, 1);
        Check.due(25, "both without bars meet at 0", x.baseOf(0, 4), 1);
        x.bar(0, 2000, 15, 0);
        Check.due(25, "0 and 1,999 .. 2,001", x.baseOf(1, 4), 2);
        Check.due(25, "from the least", x.baseOf(0, 2), 0);
        Check.due(25, "to the most", x.baseOf(1, 3), 2001);
        Check.due(25, "its own length", x.baseOf(1, 0), 0);
        x.bar(1, 2002, 15, 0);
        Check.due(25, "2,001 lies in both", x.baseOf(0, 4), 1);
        Check.due(25, "least", x.baseOf(0, 2), 2001);
        Check.due(25, "most", x.baseOf(0, 3), 2001);
        Check.due(25, "another base", x.baseOf(2, 4), 0);
        x.bar(0, 1003, 15, 0);
        x.bar(1, 1004, 15, 0);
        // 3,001 .. 3,005 and 3,004 .. 3,008
        Check.due(25, "least", x.baseOf(1, 2), 3004);
        Check.due(25, "most", x.baseOf(1, 3), 3005);
    }
}
