/** Promises 16 to 21: the tape, rules, their faults, and what they say. */
public final class RulesTest {
    public static void main(String[] args) {
        tape();
        refusals();
        faults();
        many();
        sums();
        conditions();
        weights();
        again();
        leastAndClose();
        force();
        Check.end();
    }

    private static void tape() {
        GreatArc x = new GreatArc();
        for (int i = 1; i <= 15; i++) {
            Check.due(16, "feed", x.feed(0x20202020, 0x20202020, 0x20202020, 0x20202020, 0x20202020), 20 * i);
        }
        Check.due(16, "more than 300", x.feed(0, 0, 0, 0, 0), -1);
        Check.due(16, "none has come", x.count(12), 300);
        Check.refused(17, x, "301 of 300", x.rule(301, 0, 1), 2);
        Check.due(17, "the tape stays", x.count(12), 300);
        Check.refused(17, x, "blanks alone", x.rule(300, 0, 1), 4);
        Check.due(18, "form", x.fault(), 1);
        Check.due(19, "at the end", x.where(), 300);
        Check.due(17, "the tape is empty", x.count(12), 0);
        // "leas" "t 7 " and bytes of 128 and more, each number the highest first
        x.feed(0x6C656173, 0x74203720, 0xFFFEFDFC, 0x80000000, -1);
        Check.told(17, x, "the first 8 of 20", x.rule(8, 0, 1), 0);
        Check.due(16, "empty then", x.count(12), 0);
        Check.due(21, "told(0)", x.told(0), 7);
        x.feed(0x6C656173, 0x74203720, 0xFFFEFDFC, 0x80000000, -1);
        Check.refused(17, x, "the first 9", x.rule(9, 0, 1), 4);
        Check.due(19, "the byte 255", x.where(), 8);
        x.feed(0x6C656173, 0x74203720, 0, 0, 0);
        Check.refused(17, x, "a byte 0", x.rule(9, 0, 1), 4);
        Check.due(19, "at it", x.where(), 8);
    }

    private static void refusals() {
        GreatArc x = new GreatArc();
        Check.feed(x, "least 5");
        Check.refused(17, x, "n -1", x.rule(-1, 0, 1), 2);
        Check.refused(17, x, "n 21", x.rule(21, 0, 1), 2);
        Check.refused(17, x, "from -1", x.rule(7, -1, 1), 2);
        Check.refused(17, x, "to 10000", x.rule(7, 0, 10000), 2);
        Check.refused(17, x, "to ahead of from", x.rule(7, 5, 4), 2);
        Check.due(17, "the tape stays", x.count(12), 20);
        Check.told(17, x, "one day", x.rule(7, 9999, 9999), 0);
        Check.refused(17, x, "no bytes at all", x.rule(0, 0, 0), 4);
        Check.due(19, "at 0", x.where(), 0);
        Check.feed(x, "foo");
        Check.refused(17, x, "refused by 2", x.rule(3, 3, 2), 2);
        Check.due(18, "the fault ahead of it", x.fault(), 1);
        Check.due(19, "no place now", x.where(), -1);
        Check.refused(17, x, "foo", x.rule(3, 2, 3), 4);
        Check.due(18, "2", x.fault(), 2);
        Check.due(19, "at 0", x.where(), 0);
        x.count(3);
        x.told(0);
        x.feed(0, 0, 0, 0, 0);
        Check.due(19, "calls that are never refused leave it", x.where(), 0);
        x.mark(0);
        Check.due(19, "one that may be", x.where(), -1);
        Check.due(18, "the fault stays", x.fault(), 2);
        x.rule(0, 0, 0);
        for (int r = 1; r < 24; r++) {
            Check.told(17, x, "rule", Check.rule(x, "close 1"), r);
            Check.due(18, "no fault", x.fault(), 0);
        }
        Check.refused(17, x, "a 25th", Check.rule(x, "close 1"), 3);
        Check.due(18, "no fault in it", x.fault(), 0);
        Check.due(17, "the tape is empty", x.count(12), 0);
        Check.refused(17, x, "a fault ahead of no room", Check.rule(x, "close"), 4);
        Check.due(17, "count(3)", x.count(3), 24);
    }

    private static void fault(String text, int number, int place) {
        GreatArc x = new GreatArc();
        Check.due(17, "'" + text + "'", Check.rule(x, text), -1);
        Check.due(17, "trouble of '" + text + "'", x.trouble(), 4);
        Check.due(18, "fault of '" + text + "'", x.fault(), number);
        Check.due(19, "where of '" + text + "'", x.where(), place);
    }

    private static void sound(String text) {
        GreatArc x = new GreatArc();
        Check.due(17, "'" + text + "'", Check.rule(x, text), 0);
        Check.due(18, "fault of '" + text + "'", x.fault(), 0);
        Check.due(19, "where of '" + text + "'", x.where(), -1);
    }

    private static void faults() {
        sound("strike if off<1");
        sound("  strike   if(not(off<1)or hour=2 and party>3)and 1=1  ");
        sound("weight5*9999999-kept+spread");
        sound("weight 5if 1<2");
        sound("again if not not 1<2");
        sound("least at*0");
        sound("close count");
        sound("strike if ((1<2))");
        fault("5", 1, 0);
        fault("<", 1, 0);
        fault(" ?", 1, 1);
        fault("Strike", 1, 0);
        fault("z", 2, 0);
        fault("a", 2, 0);
        fault("`", 1, 0);
        fault("{", 1, 0);
        fault("least z", 2, 6);
        fault("least /", 1, 6);
        fault("least :", 1, 6);
        sound("least 0");
        sound("least 9");
        fault("strikes if 1<2", 2, 0);
        // these four are no form wherever an act or a name can be, and no unknown word
        fault("if", 1, 0);
        fault("and", 1, 0);
        fault("or", 1, 0);
        fault("not", 1, 0);
        fault("  not 1<2", 1, 2);
        fault("if off<1", 1, 0);
        fault("iff", 2, 0);
        fault("no", 2, 0);
        fault("off", 2, 0);
        fault("abcdefgh", 2, 0);
        fault("abcdefghi", 1, 0);
        fault("strike", 1, 6);
        fault("strike  ", 1, 8);
        fault("strike off", 1, 7);
        fault("strike foo", 1, 7);
        fault("strike 1", 1, 7);
        fault("strike if", 1, 9);
        fault("strike if if", 1, 10);
        fault("strike if and", 1, 10);
        fault("strike if or", 1, 10);
        fault("strike if foo", 2, 10);
        fault("strike if strike", 2, 10);
        fault("strike if )", 1, 10);
        fault("strike if 1", 1, 11);
        fault("strike if 1 2", 1, 12);
        fault("strike if 1 foo", 1, 12);
        fault("strike if 1 and 2", 1, 12);
        fault("strike if 1 <", 1, 13);
        fault("strike if 1 < not", 1, 14);
        fault("strike if 1 < (2", 1, 14);
        fault("strike if 1 < foo", 2, 14);
        fault("strike if 1 < 2 < 3", 1, 16);
        fault("strike if 1 < 2 3", 1, 16);
        fault("strike if 1 < 2 )", 1, 16);
        fault("strike if 1 < 2 if", 1, 16);
        fault("strike if 1 < 2 not", 1, 16);
        fault("strike if 1 < 2 and", 1, 19);
        fault("strike if (1 < 2", 1, 16);
        fault("strike if (1)", 1, 12);
        fault("strike if (1 + 2) < 3", 1, 16);
        fault("strike if (1<2) + 1", 1, 16);
        fault("strike if (1<2) = 1", 1, 16);
        fault("strike if (1<2) foo", 1, 16);
        fault("strike if (1<2)) or", 1, 15);
        fault("strike if ()", 1, 11);
        fault("strike if not", 1, 13);
        fault("strike if not )", 1, 14);
        fault("strike if 12345678 < 1", 1, 10);
        fault("strike if off + abcdefghi < 1", 1, 16);
        fault("strike if 1 <> 2", 1, 13);
        fault("strike if -1 < 2", 1, 10);
        fault("weight", 1, 6);
        fault("weight if", 1, 7);
        fault("weight not", 1, 7);
        fault("weight foo", 2, 7);
        fault("weight (1)", 1, 7);
        fault("weight 1 foo", 1, 9);
        fault("weight 1 < 2", 1, 9);
        fault("weight 1 and", 1, 9);
        fault("weight 1 if", 1, 11);
        fault("weight 1 if 2", 1, 13);
        fault("weight 1 if 1<2 if 1<2", 1, 16);
        fault("weight 1 +", 1, 10);
        fault("weight 1 + + 1", 1, 11);
        fault("least 1 if 1<2", 1, 8);
        fault("close 1 2", 1, 8);
        fault("close 1 * off off", 1, 14);
        fault("again 1", 1, 6);
        // the first from the left counts, whatever comes behind it
        fault("foo ?", 2, 0);
        fault("close foo ?", 2, 6);
        fault("close ? foo", 1, 6);
    }

    private static void many() {
        StringBuilder thirty = new StringBuilder("weight 1");
        for (int i = 1; i < 30; i++) {
            thirty.append(i % 2 == 0 ? "+at" : "*3");
        }
        sound(thirty.toString());
        int n = thirty.length();
        fault(thirty + "+at", 3, n + 1);
        fault(thirty + "+7", 3, n + 1);
        fault(thirty + "+foo", 2, n + 1);
        fault(thirty + "+if", 1, n + 1);
        fault(thirty + "+12345678", 1, n + 1);
        fault(thirty + " if 1", 3, n + 4);
        sound("strike if ((((((((1<2))))))))");
        fault("strike if (((((((((1<2)))))))))", 3, 18);
        sound("strike if ((((((((1<2)))))))) or ((((((((1<2))))))))");
        sound("again if not not not not not not not not 1<2");
        fault("again if not not not not not not not not not 1<2", 3, 41);
        sound("again if not not not not not not not not (not not 1<2) and not not 1<2");
        fault("again if not not not not not not not not foo", 2, 41);
    }

    /** What "close SUM" says, as ALLOWED is 0 at least and no more is cut from it. */
    private static void sum(String text, long want) {
        GreatArc x = new GreatArc();
        Check.rule(x, "least " + text);
        Check.due(21, "least " + text, x.told(0), want);
    }

    private static void sums() {
        sum("2+3*4", 14);
        sum("2*3+4", 10);
        sum("10-3-4", 3);
        sum("10-3*2-1", 3);
        sum("0-5", -5);
        sum("9999999*9999999", 1000000000);
        sum("9999999*9999999-1", 999999999);
        sum("0-9999999*9999999-5", -1000000000);
        sum("0-9999999*9999999-5+1", -999999999);
        sum("9999999*9999999*0", 0);
        sum("9999999*9999999+9999999*9999999-9999999*9999999", 0);
        sum("off+hour+party+count+spread+kept+at", 0);
        sum("0000007", 7);
    }

    private static void holds(String text, boolean want) {
        GreatArc x = Check.room(3);
        x.angle(2, 0, 1);
        Check.read(x, 0, 100);
        Check.read(x, 0, 107);
        Check.rule(x, "again if " + text);
        Check.due(13, "again if " + text, x.angleOf(0, 9), want ? 1 : 0);
    }

    private static void conditions() {
        holds("1<2", true);
        holds("2<2", false);
        holds("3>2", true);
        holds("2>2", false);
        holds("2=2", true);
        holds("1=1 or 1=1 and 1=2", true);
        holds("(1=1 or 1=1) and 1=2", false);
        holds("1=2 and 1=1 or 1=1", true);
        holds("1=2 and (1=1 or 1=1)", false);
        holds("not 1=1 or 1=1", true);
        holds("not (1=1 or 1=1)", false);
        holds("not 1=2 and 1=1", true);
        holds("not not 1=1", true);
        holds("not not not 1=1", false);
        holds("1=2 or not 1=2", true);
        holds("not (not 1=2 and not 1=3)", false);
        holds("1=1 and not (1=2) and 2=2", true);
        holds("1+1*2 = 3 and 3 = 1*1+2", true);
        holds("0-1 < 0", true);
        holds("count=2 and kept=2 and spread=7 and at=2", true);
        holds("off=0 and hour=0 and party=0", true);
    }

    private static void weights() {
        GreatArc x = Check.room(3);
        x.angle(2, 0, 1);
        Check.due(13, "none in force", x.angleOf(0, 8), 1);
        Check.rule(x, "weight 0-7 if kept = 1", 0, 2);
        Check.rule(x, "weight 4 if kept > 0 and spread = 0", 1, 2);
        Check.rule(x, "weight spread+count", 0, 1);
        Check.due(13, "0 is brought to 1", x.angleOf(0, 8), 1);
        Check.read(x, 0, 10);
        Check.due(13, "the first that holds, brought to 1", x.angleOf(0, 8), 1);
        Check.read(x, 0, 10);
        Check.due(13, "count 2", x.angleOf(0, 8), 2);
        Check.read(x, 0, 12);
        Check.due(13, "spread 2 and count 3", x.angleOf(0, 8), 5);
        Check.read(x, 0, 22);
        Check.due(13, "brought to 9", x.angleOf(0, 8), 9);
        x.strike(2, 0, true);
        x.strike(3, 0, true);
        x.pass(1);
        Check.due(13, "rule 1 from day 1 on", x.angleOf(0, 8), 4);
        x.strike(2, 0, false);
        Check.due(13, "up to its last day: spread 2 and count 4", x.angleOf(0, 8), 6);
        x.pass(1);
        Check.due(13, "none holds", x.angleOf(0, 8), 1);
        Check.due(13, "weight has no off", Check.rule(x, "weight 8 if off + hour + party = 0"), 3);
        Check.due(13, "all of them 0", x.angleOf(0, 8), 8);
    }

    private static void again() {
        GreatArc x = Check.room(3);
        x.angle(0, 1, 2);
        x.angle(1, 0, 2);
        x.angle(2, 0, 1);
        Check.due(57, "all without kept ones", x.count(13), 3);
        Check.read(x, 0, 10);
        Check.read(x, 1, 10);
        Check.read(x, 1, 30);
        Check.due(57, "one left", x.count(13), 1);
        Check.rule(x, "again if spread > 15", 1, 1);
        Check.rule(x, "again if at = 0", 1, 3);
        Check.due(57, "not in force yet", x.count(13), 1);
        x.pass(1);
        Check.due(57, "all", x.count(13), 3);
        x.pass(1);
        Check.due(57, "two", x.count(13), 2);
        Check.due(13, "the one", x.angleOf(0, 9), 1);
        Check.due(13, "not the other", x.angleOf(1, 9), 0);
    }

    private static void leastAndClose() {
        GreatArc x = new GreatArc();
        Check.due(21, "least angle at first", x.told(0), 0);
        Check.due(21, "allowed at first", x.told(1), 100);
        Check.due(21, "told(2)", x.told(2), -1);
        Check.due(21, "told(-1)", x.told(-1), -1);
        Check.rule(x, "close 30", 0, 5);
        Check.rule(x, "close 20", 0, 3);
        Check.rule(x, "least 40", 1, 1);
        Check.rule(x, "least 0-40", 0, 0);
        Check.due(21, "the latest", x.told(1), 20);
        Check.due(21, "below 0", x.told(0), -40);
        x.pass(1);
        Check.due(21, "the one in force", x.told(0), 40);
        x.pass(3);
        Check.due(21, "the one in force", x.told(1), 30);
        Check.due(21, "none in force", x.told(0), 0);
        x.pass(2);
        Check.due(21, "none in force", x.told(1), 100);
        Check.rule(x, "close 0-5");
        Check.due(21, "0 at least", x.told(1), 0);
        x.force(1, 0, 9999);
        Check.due(21, "the latest is by number, not by force()", x.told(1), 0);
    }

    private static void force() {
        GreatArc x = new GreatArc();
        Check.refused(20, x, "no rule", x.force(0, 0, 1), 1);
        Check.rule(x, "close 5");
        Check.refused(20, x, "no rule", x.force(1, 0, 1), 1);
        Check.refused(20, x, "no rule", x.force(-1, 5, 1), 1);
        Check.refused(20, x, "from", x.force(0, -1, 1), 2);
        Check.refused(20, x, "to", x.force(0, 0, 10000), 2);
        Check.refused(20, x, "to ahead of from", x.force(0, 2, 1), 2);
        Check.due(20, "in force still", x.told(1), 5);
        Check.told(20, x, "force", x.force(0, 1, 1));
        Check.due(20, "not today", x.told(1), 100);
        x.pass(1);
        Check.due(20, "but on the day", x.told(1), 5);
        x.pass(1);
        Check.due(20, "not behind it", x.told(1), 100);
        Check.told(20, x, "force", x.force(0, 0, 9999));
        Check.due(20, "from now on", x.told(1), 5);
    }
}
