/** Promises 16 to 21 by their sentences: the tape, texts, their faults, and what rules say. */
public final class RulesTest {
    private static final String[] ACTS = {"strike", "weight", "again", "least", "close"};
    private static final String[] NAMES = {"off", "hour", "party", "count", "spread", "kept", "at"};

    public static void main(String[] args) {
        feeding();
        tokens();
        grammar();
        words();
        inForce();
        facts();
        factsLeft();
        sums();
        weights();
        again();
        leastAndClose();
        form();
        unknown();
        eachPlace();
        many();
        nothingLeft();
        ruling();
        faultAndWhere();
        forcing();
        Check.end();
    }

    private static void sound(String text) {
        GreatArc x = new GreatArc();
        Check.told(x, "'" + text + "'", Check.rule(x, text), 0);
        Check.due("fault of '" + text + "'", x.fault(), 0);
    }

    private static void fault(String text, int number, int place) {
        GreatArc x = new GreatArc();
        faultIn(x, text, number, place);
        Check.due("RULES behind '" + text + "'", x.count(3), 0);
    }

    private static void faultIn(GreatArc x, String text, int number, int place) {
        Check.refused(x, "'" + text + "'", Check.rule(x, text), 4);
        Check.due("fault of '" + text + "'", x.fault(), number);
        Check.due("where of '" + text + "'", x.where(), place);
    }

    /** What "least SUM" tells. */
    private static void sum(String text, int want) {
        GreatArc x = new GreatArc();
        Check.told(x, "'least " + text + "'", Check.rule(x, "least " + text), 0);
        Check.due("its sum", x.told(0), want);
    }

    private static void feeding() {
        Check.says(16, "Twenty bytes come behind THE TAPE, of each number the highest first: how many it has; NONE, and none "
            + "comes, if there would be more than 300.");
        GreatArc x = new GreatArc();
        Check.due("at first", x.count(12), 0);
        // "clos" "e 12" "3456" "7-23" "4567": each of the bytes has its say
        Check.due("twenty", x.feed(0x636C6F73, 0x65203132, 0x33343536, 0x372D3233, 0x34353637), 20);
        Check.told(x, "all twenty", x.rule(20, 0, 9), 0);
        Check.due("1,234,567 less 234,567", x.told(1), 1000000);
        Check.due("empty", x.count(12), 0);
        for (int i = 1; i <= 14; i++) {
            Check.due("blanks", x.feed(0x20202020, 0x20202020, 0x20202020, 0x20202020, 0x20202020), 20 * i);
        }
        Check.due("the last twenty", x.feed(0x20202020, 0x20206C65, 0x61737420, 0x35202020, 0x20202038), 300);
        Check.due("more than 300", x.feed(0x31313131, 0x31313131, 0x31313131, 0x31313131, 0x31313131), -1);
        Check.due("none has come", x.count(12), 300);
        Check.refused(x, "the first 300 as they were: least 5 8", x.rule(300, 0, 9), 4);
        Check.due("at the 8", x.where(), 299);
        Check.feed(x, "least" + " ".repeat(294) + "6");
        Check.due("300 again", x.count(12), 300);
        Check.told(x, "a text of 300 bytes: least 6", x.rule(300, 0, 9), 1);
        Check.due("its sum", x.told(0), 6);
    }

    private static void tokens() {
        Check.says(17, "IV. RULES (texts; THE TAPE has 300 bytes; blanks, 32, part TOKENS and mean nothing else; TOKENS: WORDS "
            + "of 1 to 8 small letters that stand together, WHOLES of 1 to 7 digits that do, single ones of "
            + "< > = + - * ( ) ):");
        sum("1+2", 3);
        sum("    1    +    2    ", 3);
        sum("1234567", 1234567);
        sum("0000001", 1);
        sum("0", 0);
        sum("9", 9);
        sound("strike if(1<2)and(1>2)or(1=2)");
        sound("weight1+2-3*4if1<2");
        fault("le ast 5", 2, 0);
        fault("least 1 2", 1, 8);
        fault("least 12 34567", 1, 9);
        fault("strike if 1 < 2 a nd 1 < 2", 1, 16);
        fault("strikeif 1<2", 2, 0);
        fault("strikeifx 1<2", 1, 0);
        fault("least 12345678", 1, 6);
        fault("least 12345678+", 1, 6);
        fault("least abcdefgh", 2, 6);
        fault("least abcdefghi", 1, 6);
        fault("least 1+abcdefghijklmnop", 1, 8);
        // what begins no token: all bytes but blanks, small letters, digits and the eight signs
        for (int c = 0; c < 256; c++) {
            boolean token = c >= 'a' && c <= 'z' || c >= '0' && c <= '9' || c == ' ' || "<>=+-*()".indexOf(c) >= 0;
            if (!token) {
                fault("least 5" + (char) c, 1, 7);
                fault((char) c + "least 5", 1, 0);
                fault("least " + (char) c + "5", 1, 6);
            }
        }
        fault("leasT 5", 2, 0);
        fault("Least 5", 1, 0);
        sound("close" + " ".repeat(294) + "7");
        fault("close" + " ".repeat(293) + "7+", 1, 300);
        fault(" ".repeat(300), 1, 300);
    }

    private static void grammar() {
        Check.says(17, "RULE: strike if ANY; weight SUM, or weight SUM if ANY; again if ANY; least SUM; close SUM.");
        sound("strike if 1<2");
        sound("weight 1");
        sound("weight 1 if 1<2");
        sound("again if 1<2");
        sound("least 1");
        sound("close 1");
        fault("strike 1", 1, 7);
        fault("strike 1<2", 1, 7);
        fault("strike if 1", 1, 11);
        fault("weight if 1<2", 1, 7);
        fault("weight 1 if 1", 1, 13);
        fault("weight 1<2", 1, 8);
        fault("again 1", 1, 6);
        fault("least if 1<2", 1, 6);
        fault("least 1 if 1<2", 1, 8);
        fault("close 1 if 1<2", 1, 8);
        fault("least 1<2", 1, 7);
        fault("close (1)", 1, 6);
        Check.says(17, "ANY: ALL {or ALL}. ALL: ONE {and ONE}. ONE: not ONE, ( ANY ), SUM < SUM, SUM > SUM, SUM = SUM.");
        holds("1=2 or 2=2", true);
        holds("2=2 or 1=2", true);
        holds("1=2 or 1=2 or 1=1", true);
        holds("1=2 or 1=3", false);
        holds("1=1 and 2=2 and 3=3", true);
        holds("1=1 and 2=2 and 3=4", false);
        holds("1=1 or 1=2 and 1=3", true);
        holds("(1=1 or 1=2) and 1=3", false);
        holds("1=3 and 1=2 or 1=1", true);
        holds("1=3 and (1=2 or 1=1)", false);
        holds("not 1=2", true);
        holds("not not 1=2", false);
        holds("not 1=2 and 1=2", false);
        holds("not 1=1 or 1=1", true);
        holds("not (1=1 or 1=1)", false);
        holds("not (1=2 and 1=1)", true);
        holds("1<2", true);
        holds("2<2", false);
        holds("3<2", false);
        holds("1>2", false);
        holds("2>2", false);
        holds("3>2", true);
        holds("1=2", false);
        holds("2=2", true);
        holds("3=2", false);
        holds("1+1=2", true);
        holds("2=1+1", true);
        holds("3-1>1", true);
        holds("1<3-1", true);
        holds("2*2<1+2*2", true);
        holds("1+2*2<2*2", false);
        holds("1<2 and 1=1 and 2>1", true);
        holds("2>1 and 1=1 and 1<2", true);
        holds("1=1 and not 1>2 and not 2<1", true);
        holds("not 1<2 or not 2>1 or not 1=1", false);
        holds("not not 1<2 and not not 2>1 and not not 1=1", true);
        holds("not (not 1=2 and not 1=3)", false);
        holds("not (not 1=2 and not 1=1)", true);
        holds("1=2 or not 1=2", true);
        holds("1=1 and not (1=2) and 2=2", true);
        holds("1+1*2 = 3 and 3 = 1*1+2", true);
        holds("0-1 < 0", true);
        fault("again if (1<2)+1", 1, 14);
        fault("again if (1<2)<1", 1, 14);
        fault("again if (1<2)=1", 1, 14);
        fault("again if (1<2)*1", 1, 14);
        fault("again if (1<2) foo", 1, 15);
        fault("again if (1<2) 1", 1, 15);
        fault("again if (1<2) (1<2)", 1, 15);
        fault("again if (1<2", 1, 13);
        fault("again if 1<2)", 1, 12);
        fault("again if 1<2<3", 1, 12);
        fault("again if (1)<2", 1, 11);
        fault("again if ()", 1, 10);
        fault("again if 1<2 not 1<2", 1, 13);
        fault("again if 1<2 or", 1, 15);
        fault("again if and 1<2", 1, 9);
        fault("again if 1<2 and or 1<2", 1, 17);
        Check.says(17, "SUM: TERM {+ TERM or - TERM}. TERM: PART {* PART}. PART: WHOLE or NAME: off, hour, party, count, spread, "
            + "kept, at.");
        sum("7", 7);
        sum("7-2-1", 4);
        sum("7-2+1", 6);
        sum("2+3*4", 14);
        sum("2*3+4*5", 26);
        sum("2*3*4-5", 19);
        sum("10-2*3", 4);
        sum("10-3*2-1", 3);
        sum("0-5", -5);
        sum("off+hour+party+count+spread+kept+at", 0);
        for (String name : NAMES) {
            sum(name, 0);
            sum("3-" + name + "*2", 3);
        }
        fault("least +1", 1, 6);
        fault("least -1", 1, 6);
        fault("least 1--1", 1, 8);
        fault("least 1*", 1, 8);
        fault("least *1", 1, 6);
        fault("least 1*(2)", 1, 8);
    }

    private static void holds(String text, boolean want) {
        GreatArc x = Check.room(3);
        x.angle(2, 0, 1);
        Check.read(x, 0, 100);
        Check.told(x, "'again if " + text + "'", Check.rule(x, "again if " + text), 0);
        Check.due("it holds", x.angleOf(0, 9), want ? 1 : 0);
    }

    /** Each letter of a word counts, and how many they are: what differs from it is another word. */
    private static String[] near(String word) {
        String[] near = new String[2 * word.length() + 2];
        for (int i = 0; i < word.length(); i++) {
            char c = word.charAt(i);
            near[2 * i] = word.substring(0, i) + (c == 'z' ? 'a' : (char) (c + 1)) + word.substring(i + 1);
            near[2 * i + 1] = word.substring(0, i) + (c == 'a' ? 'z' : (char) (c - 1)) + word.substring(i + 1);
        }
        near[2 * word.length()] = word + "s";
        near[2 * word.length() + 1] = word.length() > 1 ? word.substring(1) : "q";
        return near;
    }

    private static void words() {
        Check.says(18, "2 a WORD that is no ACT (strike, weight, again, least, close), or no NAME where one can be "
            + "(if, and, or, not: there they are 1, or begin what they begin); at it.");
        for (String act : ACTS) {
            for (String word : near(act)) {
                fault(word, 2, 0);
                fault("  " + word + " if 1<2", 2, 2);
            }
        }
        for (String name : NAMES) {
            sound("least " + name);
            sound("strike if 1<" + name);
            fault(name, 2, 0);
            for (String word : near(name)) {
                if (!word.equals("if") && !word.equals("or")) {
                    fault("least " + word, 2, 6);
                    fault("strike if 1< " + word, 2, 13);
                    fault("strike if not " + word, 2, 14);
                    fault("strike if ( " + word, 2, 12);
                }
            }
        }
        for (String word : near("if")) {
            fault("strike " + word + " 1<2", 1, 7);
            fault("weight 1 " + word + " 1<2", 1, 9);
        }
        for (String word : near("and")) {
            fault("strike if 1<2 " + word + " 1<2", 1, 14);
        }
        for (String word : near("or")) {
            fault("strike if 1<2 " + word + " 1<2", 1, 14);
        }
        for (String word : near("not")) {
            fault("strike if " + word + " 1<2", 2, 10);
        }
        for (String act : ACTS) {
            fault("least " + act, 2, 6);
        }
        String[] joints = {"if", "and", "or", "not"};
        for (String word : joints) {
            fault(word, 1, 0);
            fault("  " + word + " 1<2", 1, 2);
            fault("least " + word, 1, 6);
            fault("least 1+" + word, 1, 8);
            fault("strike if 1<" + word, 1, 12);
        }
        fault("strike if if 1<2", 1, 10);
        fault("strike if and 1<2", 1, 10);
        fault("strike if or 1<2", 1, 10);
        sound("strike if not 1<2");
        fault("strike foo", 1, 7);
        fault("least 1 foo", 1, 8);
        fault("strike if 1<2 foo", 1, 14);
    }

    private static void inForce() {
        Check.says(17, "In force from a DAY up to another one.");
        GreatArc x = new GreatArc();
        Check.rule(x, "close 7", 2, 4);
        Check.rule(x, "least 7", 1, 1);
        int[] close = {100, 100, 7, 7, 7, 100};
        int[] least = {0, 7, 0, 0, 0, 0};
        for (int day = 0; day < 6; day++) {
            Check.due("close on day " + day, x.told(1), close[day]);
            Check.due("least on day " + day, x.told(0), least[day]);
            x.pass(1);
        }
    }

    private static void facts() {
        Check.says(17, "off: how far the READING is from the MIDDLE; hour, party: the READING's; count: SEEN ones of the ANGLE; "
            + "spread, kept: of the ANGLE (0 without KEPT ones); at: its MARK.");
        struck("off=30", false, false, true, false);
        struck("off>9", true, false, true, false);
        struck("hour=5", true, false, false, false);
        struck("hour=7", false, false, true, false);
        struck("party=2", false, true, false, false);
        struck("count=3", true, true, true, false);
        struck("count=4", false, false, false, false);
        struck("at=1", true, true, true, false);
        said("count=3 and kept=3 and spread=40 and at=1", -1);
        said("count=3 and kept=2 and spread=10 and at=1", 2);
        GreatArc x = Check.room(3);
        x.angle(1, 0, 2);
        Check.rule(x, "weight 7 if spread=0 and kept=0 and count=0 and at=1");
        Check.due("0 without readings", x.angleOf(0, 8), 7);
        x.read(0, 0x7FC00000, 3, 1);
        Check.due("0 without seen ones", x.angleOf(0, 8), 7);
        Check.rule(x, "weight 8 if spread=0 and kept=0 and count=1 and at=1");
        Check.read(x, 0, 100);
        x.strike(1, 0, true);
        Check.due("0 without kept ones", x.angleOf(0, 8), 8);
        Check.says(17, "(In strike spread and kept are 0; in weight and again off, hour and party are; in least and close all "
            + "are 0.)");
        struck("spread+kept=0", true, true, true, false);
        struck("spread>0 or kept>0", false, false, false, false);
        said("off+hour+party=0", -1);
    }

    /** Readings 90 at 5 by 0, 100 at 6 by 2, 130 at 7 by 1, and one not seen, at mark 1. */
    private static GreatArc four() {
        GreatArc x = Check.room(3);
        x.angle(1, 0, 2);
        x.read(0, Check.bits(90), 5, 0);
        x.read(0, Check.bits(100), 6, 2);
        x.read(0, Check.bits(130), 7, 1);
        x.read(0, 0x7FC00000, 7, 1);
        return x;
    }

    private static void struck(String text, boolean... want) {
        GreatArc x = four();
        Check.rule(x, "strike if " + text);
        for (int r = 0; r < 4; r++) {
            Check.due("strike if " + text + " of " + r, x.reading(r, 6), want[r] ? 0 : -2);
        }
    }

    /** Whether again and weight hold of the four, without that reading if it is one. */
    private static void said(String text, int struck) {
        GreatArc x = four();
        if (struck >= 0) {
            x.strike(struck, 0, true);
        }
        Check.rule(x, "again if " + text);
        Check.rule(x, "weight 7 if " + text);
        Check.due("again if " + text, x.angleOf(0, 9), 1);
        Check.due("weight 7 if " + text, x.angleOf(0, 8), 7);
    }

    /** Facts that another kind of rule was asked by don't stay for the next one. */
    private static void factsLeft() {
        Check.says(17, "in least and close all are 0.");
        GreatArc x = four();
        Check.rule(x, "least off+hour+party+count+spread+kept+at");
        Check.rule(x, "close off+hour+party+count+spread+kept+at");
        Check.rule(x, "strike if off+hour+party+count+at<0");
        Check.rule(x, "weight 2 if spread>0");
        x.angleOf(0, 0);
        Check.due("least behind strike", x.told(0), 0);
        x.angleOf(0, 8);
        Check.due("close behind weight", x.told(1), 0);
        x.angleOf(0, 9);
        Check.due("least behind again", x.told(0), 0);
        Check.says(17, "(In strike spread and kept are 0;");
        x.angleOf(0, 8);
        Check.rule(x, "strike if spread>0 or kept>0");
        Check.due("strike behind weight", x.angleOf(0, 4), 3);
        x.angleOf(0, 8);
        x.read(0, Check.bits(95), 5, 0);
        Check.due("strike behind weight", x.angleOf(0, 4), 4);
        Check.says(17, "in weight and again off, hour and party are;");
        Check.rule(x, "again if off>0 or hour>0 or party>0");
        x.read(0, Check.bits(96), 5, 2);
        Check.due("kept", x.angleOf(0, 4), 5);
        Check.due("again behind strike", x.angleOf(0, 9), 0);
    }

    private static void sums() {
        Check.says(17, "Sums are bound to -1,000,000,000 .. 1,000,000,000 behind each sign.");
        sum("1000000*1000", 1000000000);
        sum("1000000*1000+1", 1000000000);
        sum("1000000*1000-1", 999999999);
        sum("1000000*999+999999", 999999999);
        sum("9999999*9999999", 1000000000);
        sum("9999999*9999999*9999999", 1000000000);
        sum("9999999*9999999-1", 999999999);
        sum("9999999*9999999*0+5", 5);
        sum("0-1000000*1000", -1000000000);
        sum("0-1000000*1000-1", -1000000000);
        sum("0-1000000*1000-1+1", -999999999);
        sum("0-1000000*1000+1", -999999999);
        sum("9999999*9999999+9999999*9999999-9999999*9999999", 0);
        sum("0-9999999*9999999-9999999*9999999+9999999*9999999", 0);
        holds("9999999*9999999=1000000*1000", true);
        holds("9999999*9999999>1000000*1000", false);
    }

    private static void weight(String text, int want) {
        GreatArc x = four();
        Check.rule(x, "weight " + text);
        Check.due("weight " + text, x.angleOf(0, 8), want);
    }

    private static void weights() {
        Check.says(13, "WEIGHT of an ANGLE TODAY: the SUM of the first RULE of weight in force that holds, brought into 1 .. 9; "
            + "1 if there is none.");
        Check.due("none", four().angleOf(0, 8), 1);
        weight("0", 1);
        weight("1", 1);
        weight("2", 2);
        weight("8", 8);
        weight("9", 9);
        weight("10", 9);
        weight("9999999", 9);
        weight("0-1", 1);
        weight("0-9999999", 1);
        weight("5 if 1=2", 1);
        GreatArc x = four();
        Check.rule(x, "again if 1=2");
        Check.rule(x, "weight 2", 1, 1);
        Check.rule(x, "weight 3 if kept=2");
        Check.rule(x, "weight 4 if spread=40");
        Check.rule(x, "weight 5");
        Check.due("the first that holds", x.angleOf(0, 8), 4);
        x.strike(2, 0, true);
        Check.due("the first that holds", x.angleOf(0, 8), 3);
        x.pass(1);
        Check.due("the first in force", x.angleOf(0, 8), 2);
        x.pass(1);
        x.strike(1, 0, true);
        Check.due("the one that always holds", x.angleOf(0, 8), 5);
    }

    private static void again() {
        Check.says(13, "AGAIN: some RULE of again in force holds, or it has no KEPT one.");
        GreatArc x = four();
        Check.due("kept ones, no rule", x.angleOf(0, 9), 0);
        Check.rule(x, "again if count=9");
        Check.rule(x, "again if count=3", 1, 2);
        Check.rule(x, "again if count=8");
        int[] want = {0, 1, 1, 0};
        for (int day = 0; day < 4; day++) {
            Check.due("day " + day, x.angleOf(0, 9), want[day]);
            Check.due("day " + day, x.count(13), want[day]);
            x.pass(1);
        }
        Check.rule(x, "strike if 1=1");
        Check.due("no kept one", x.angleOf(0, 9), 1);
        Check.due("no kept one", x.count(13), 1);
    }

    private static void leastAndClose() {
        Check.says(21, "LEAST ANGLE: the SUM of the latest RULE of least in force, 0 without one; ALLOWED miss: of close "
            + "likewise, 100 without one, 0 at least.");
        GreatArc x = new GreatArc();
        Check.due("least without one", x.told(0), 0);
        Check.due("close without one", x.told(1), 100);
        Check.rule(x, "least 0-1", 0, 9);
        Check.rule(x, "close 0-1", 0, 9);
        Check.due("below 0", x.told(0), -1);
        Check.due("0 at least", x.told(1), 0);
        Check.rule(x, "close 1", 0, 2);
        Check.rule(x, "least 5", 0, 1);
        Check.rule(x, "close 0", 1, 1);
        Check.rule(x, "least 9*9999999", 1, 1);
        int[] least = {5, 89999991, -1, -1};
        int[] close = {1, 0, 1, 0};
        for (int day = 0; day < 4; day++) {
            Check.due("least of day " + day, x.told(0), least[day]);
            Check.due("close of day " + day, x.told(1), close[day]);
            x.pass(1);
        }
        Check.says(21, "0 LEAST ANGLE, 1 ALLOWED miss TODAY. NONE for others.");
        int[] others = {2, -1, Integer.MIN_VALUE, Integer.MAX_VALUE};
        for (int what : others) {
            Check.due("told(" + what + ")", x.told(what), -1);
        }
        Check.due("told(0)", x.told(0), -1);
        x.pass(6);
        Check.due("none in force any more", x.told(0), 0);
        Check.due("none in force any more", x.told(1), 100);
    }

    private static void form() {
        Check.says(18, "FAULTS, the first that is met from the left, of one place the least number: 1 FORM: the first byte that "
            + "begins no TOKEN, or TOKEN with which no RULE goes on (the end: its place).");
        fault("", 1, 0);
        fault("    ", 1, 4);
        fault("5", 1, 0);
        fault(" (", 1, 1);
        fault("strike", 1, 6);
        fault("strike ", 1, 7);
        fault("strike if", 1, 9);
        fault("strike if   ", 1, 12);
        fault("least", 1, 5);
        fault("least 5 +", 1, 9);
        fault("least 5 +  ", 1, 11);
        fault("least 5 ?", 1, 8);
        fault("least 5 6 ?", 1, 8);
        fault("least foo ?", 2, 6);
        fault("least ? foo", 1, 6);
        fault("foo bar ?", 2, 0);
        fault("least 12345678 foo", 1, 6);
        GreatArc x = new GreatArc();
        Check.feed(x, "least 5 6");
        Check.told(x, "the end ahead of the fault", x.rule(8, 0, 9), 0);
        Check.feed(x, "least 5 ");
        Check.refused(x, "the end ahead of the whole", x.rule(6, 0, 9), 4);
        Check.due("at the end", x.where(), 6);
        Check.feed(x, "least 55 ");
        Check.told(x, "the end within the whole", x.rule(7, 0, 9), 1);
        Check.due("one digit of it", x.told(0), 5);
    }

    private static void unknown() {
        Check.says(18, "2 a WORD that is no ACT");
        fault("foo", 2, 0);
        fault("off", 2, 0);
        fault("a", 2, 0);
        fault("zzzzzzzz", 2, 0);
        fault("zzzzzzzzz", 1, 0);
        fault("close z", 2, 6);
        fault("close weight", 2, 6);
    }

    /** What goes on and what doesn't, place by place of each kind of rule. */
    private static void eachPlace() {
        Check.says(18, "or TOKEN with which no RULE goes on (the end: its place).");
        sound("  strike   if(not(off<1)or hour=2 and party>3)and 1=1  ");
        sound("weight5*9999999-kept+spread");
        sound("weight 5if 1<2");
        sound("again if not not 1<2");
        sound("strike if ((1<2))");
        fault("strike off", 1, 7);
        fault("strike if foo", 2, 10);
        fault("strike if strike", 2, 10);
        fault("strike if )", 1, 10);
        fault("strike if 1 2", 1, 12);
        fault("strike if 1 foo", 1, 12);
        fault("strike if 1 and 2", 1, 12);
        fault("strike if 1 <", 1, 13);
        fault("strike if 1 < not", 1, 14);
        fault("strike if 1 < (2", 1, 14);
        fault("strike if 1 < foo", 2, 14);
        fault("strike if 1 < 2 < 3", 1, 16);
        fault("strike if 1 < 2 3", 1, 16);
        fault("strike if 1 < 2 )", 1, 16);
        fault("strike if 1 < 2 if", 1, 16);
        fault("strike if 1 < 2 not", 1, 16);
        fault("strike if 1 < 2 and", 1, 19);
        fault("strike if (1 < 2", 1, 16);
        fault("strike if (1 + 2) < 3", 1, 16);
        fault("strike if (1<2)) or", 1, 15);
        fault("strike if not", 1, 13);
        fault("strike if not )", 1, 14);
        fault("strike if 12345678 < 1", 1, 10);
        fault("strike if off + abcdefghi < 1", 1, 16);
        fault("strike if 1 <> 2", 1, 13);
        fault("strike if -1 < 2", 1, 10);
        fault("weight", 1, 6);
        fault("weight not", 1, 7);
        fault("weight foo", 2, 7);
        fault("weight (1)", 1, 7);
        fault("weight 1 foo", 1, 9);
        fault("weight 1 and", 1, 9);
        fault("weight 1 if", 1, 11);
        fault("weight 1 if 1<2 if 1<2", 1, 16);
        fault("weight 1 +", 1, 10);
        fault("weight 1 + + 1", 1, 11);
        fault("close 1 2", 1, 8);
        fault("close 1 * off off", 1, 14);
    }

    /** So many wholes and names: 1 * 3 + at * 3 + at .. */
    private static String operands(int count) {
        StringBuilder text = new StringBuilder("weight 1");
        for (int i = 1; i < count; i++) {
            text.append(i % 2 == 0 ? "+at" : "*3");
        }
        return text.toString();
    }

    private static void many() {
        Check.says(18, "3 MANY: a 31st WHOLE or NAME, at it; a ninth ( open, a ninth not right behind others, at it.");
        String thirty = operands(30);
        int n = thirty.length();
        sound(operands(29));
        sound(thirty);
        fault(thirty + "+5", 3, n + 1);
        fault(thirty + "+ at", 3, n + 2);
        fault(thirty + " if 5", 3, n + 4);
        fault(thirty + " if not at", 3, n + 8);
        fault(thirty + "+?", 1, n + 1);
        fault(thirty + "+12345678", 1, n + 1);
        fault(thirty + "+if", 1, n + 1);
        fault(thirty + "+foo", 2, n + 1);
        fault(thirty + " 5", 1, n + 1);
        fault(thirty + "+", 1, n + 1);
        sound("strike if " + "(".repeat(8) + "1<2" + ")".repeat(8));
        fault("strike if " + "(".repeat(9) + "1<2" + ")".repeat(9), 3, 18);
        fault("strike if " + "(".repeat(10), 3, 18);
        fault("strike if " + "( ".repeat(8) + "not (", 3, 30);
        sound("strike if (1<2) and ((((((((1<2))))))) and (1<2)) or ((((((((1<2))))))))");
        fault("strike if ((((((((1<2)) and ((( 1<2", 3, 30);
        fault("strike if ((((((((1(", 1, 19);
        String eight = "not ".repeat(8);
        sound("again if " + eight + "1<2");
        fault("again if " + eight + "not 1<2", 3, 41);
        fault("again if " + eight + "not not 1<2", 3, 41);
        sound("again if " + eight + "1<2 and " + eight + "1<2");
        sound("again if " + eight + "(" + eight + "1<2)");
        sound("again if (" + eight + "1<2)");
        fault("again if 1<2 and " + eight + "not 1<2", 3, 49);
        fault("again if not 1<2 or " + eight + "not 1<2", 3, 52);
        fault("again if (" + eight + "not 1<2)", 3, 42);
        fault("again if " + eight + "(" + eight + "not 1<2)", 3, 74);
        sound("again if " + eight + "(" + eight + "1<2) or " + eight + "1<2");
        fault("again if " + eight + "1 not", 1, 43);
        holds(eight + "1<2", true);
        holds("not ".repeat(7) + "1<2", false);
        holds(eight + "(" + "not ".repeat(7) + "1<2)", false);
        holds("not (" + "not ".repeat(7) + "1<2)", true);
    }

    /** What one text counts or leaves waiting is no matter to the next. */
    private static void nothingLeft() {
        Check.says(17, "are a RULE in force from a DAY up to another one: its number.");
        GreatArc x = new GreatArc();
        for (int i = 0; i < 3; i++) {
            Check.told(x, "thirty each", Check.rule(x, operands(30)), i);
        }
        faultIn(x, "strike if ((((((((1+", 1, 20);
        Check.told(x, "brackets behind brackets", Check.rule(x, "strike if ((((((((1<2))))))))"), 3);
        faultIn(x, "strike if ((1+", 1, 14);
        faultIn(x, "strike if 1<2)", 1, 13);
        faultIn(x, "strike if not not not not not not not not", 1, 41);
        faultIn(x, "again if " + "not ".repeat(9), 3, 41);
        Check.told(x, "nots behind nots", Check.rule(x, "again if not 1=2"), 4);
        faultIn(x, "least 3*(", 1, 8);
        Check.told(x, "a sum behind one", Check.rule(x, "least 7"), 5);
        Check.due("its sum", x.told(0), 7);
        faultIn(x, "weight 1+1 if not", 1, 17);
        Check.told(x, "a sum behind a weight", Check.rule(x, "close 8-3"), 6);
        Check.due("its sum", x.told(1), 5);
        faultIn(x, "strike if 1+1<2*", 1, 16);
        faultIn(x, "least 5 < 6", 1, 8);
        // a not where an earlier text left one waiting, behind a bracket and behind an and
        GreatArc y = Check.room(3);
        y.angle(2, 0, 1);
        Check.read(y, 0, 100);
        faultIn(y, "again if ((not", 1, 14);
        Check.told(y, "behind a bracket and an and", Check.rule(y, "again if (1=1 and not 1=1)"), 0);
        Check.due("it doesn't hold", y.angleOf(0, 9), 0);
        faultIn(y, "again if (not", 1, 13);
        Check.told(y, "behind an or", Check.rule(y, "again if 1=2 or not 1=2"), 1);
        Check.due("it holds", y.angleOf(0, 9), 1);
    }

    private static void ruling() {
        Check.says(17, "RULES 24;");
        GreatArc x = new GreatArc();
        for (int r = 0; r < 24; r++) {
            Check.told(x, "rule " + r, Check.rule(x, "close " + r, 0, 9), r);
            Check.due("the latest", x.told(1), r);
        }
        Check.refused(x, "a 25th", Check.rule(x, "close 99", 0, 9), 3);
        Check.due("RULES", x.count(3), 24);
        Check.due("not told", x.told(1), 23);
        Check.due("THE TAPE is empty", x.count(12), 0);
        Check.due("no fault", x.fault(), 0);
        Check.due("no place", x.where(), -1);
        faultIn(x, "foo", 2, 0);
        Check.refused(x, "no bytes at all", x.rule(0, 0, 9), 4);
        Check.due("form", x.fault(), 1);
        Check.due("at the end", x.where(), 0);
        Check.says(17, "The first n bytes of THE TAPE (it is empty then) are a RULE in force from a DAY up to another one: its "
            + "number. NONE: 2 (both: THE TAPE stays); 4; 3.");
        GreatArc y = new GreatArc();
        Check.feed(y, "least 56");
        int[][] bad = {{21, 0, 9}, {-1, 0, 9}, {Integer.MIN_VALUE, 0, 9}, {Integer.MAX_VALUE, 0, 9}, {8, -1, 9},
            {8, 0, 10000}, {8, 10000, 10000}, {8, -1, -1}, {8, 5, 4}, {8, 0, Integer.MAX_VALUE}, {8, Integer.MIN_VALUE, 0}};
        for (int[] b : bad) {
            Check.refused(y, "rule " + b[0] + " from " + b[1] + " to " + b[2], y.rule(b[0], b[1], b[2]), 2);
            Check.due("THE TAPE stays", y.count(12), 20);
            Check.due("RULES", y.count(3), 0);
        }
        Check.told(y, "the first 7 bytes", y.rule(7, 0, 9999), 0);
        Check.due("5 of 56", y.told(0), 5);
        Check.due("THE TAPE is empty", y.count(12), 0);
        Check.refused(y, "1 of 0", y.rule(1, 0, 9), 2);
        Check.feed(y, "foo");
        Check.refused(y, "foo", y.rule(3, 0, 9), 4);
        Check.due("THE TAPE is empty behind a fault", y.count(12), 0);
        Check.feed(y, "close 6");
        Check.told(y, "for the last day", y.rule(7, 9999, 9999), 1);
        Check.feed(y, "close 6");
        Check.told(y, "for the first day", y.rule(7, 0, 0), 2);
        Check.due("that of the first day", y.told(1), 6);
        GreatArc z = new GreatArc();
        Check.feed(z, "close atone");
        Check.told(z, "2 letters of a run", z.rule(8, 0, 9), 0);
        Check.feed(z, "close 5678");
        Check.told(z, "2 digits of a run", z.rule(8, 0, 9), 1);
        Check.due("56 of 5678", z.told(1), 56);
        Check.feed(z, "leasts 5");
        Check.refused(z, "5 letters of 6", z.rule(5, 0, 9), 4);
        Check.due("the end", z.where(), 5);
    }

    private static void faultAndWhere() {
        Check.says(18, "The FAULT of the latest rule() not refused by 2; 0 without one.");
        GreatArc x = new GreatArc();
        Check.due("ahead of any", x.fault(), 0);
        Check.refused(x, "by 2", x.rule(1, 0, 0), 2);
        Check.due("ahead of any", x.fault(), 0);
        faultIn(x, "foo", 2, 0);
        x.rule(1, 0, 0);
        Check.due("as ahead of the one refused by 2", x.fault(), 2);
        x.mark(-1);
        Check.due("other calls leave it", x.fault(), 2);
        Check.rule(x, "least ?");
        Check.due("the latest", x.fault(), 1);
        Check.rule(x, "strike if (((((((((");
        Check.due("the latest", x.fault(), 3);
        Check.rule(x, "least 5");
        Check.due("without one", x.fault(), 0);
        Check.says(19, "Its place, if the latest call that may be refused was by 4; NONE else.");
        GreatArc y = new GreatArc();
        Check.due("ahead of any", y.where(), -1);
        faultIn(y, "least foo", 2, 6);
        Check.due("asked again", y.where(), 6);
        y.mark(-1);
        Check.due("another call refused", y.where(), -1);
        Check.due("the fault is there still", y.fault(), 2);
        faultIn(y, "least foo", 2, 6);
        y.mark(5);
        Check.due("another call, not refused", y.where(), -1);
        faultIn(y, "least foo", 2, 6);
        y.rule(1, 0, 0);
        Check.due("rule() refused by 2", y.where(), -1);
        faultIn(y, "least  foo", 2, 7);
        Check.rule(y, "least 5");
        Check.due("rule() not refused", y.where(), -1);
    }

    private static void forcing() {
        Check.says(20, "A RULE is in force from a DAY up to another one from now on: true; false: 1; 2.");
        GreatArc x = four();
        Check.rule(x, "close 5", 0, 9);
        Check.rule(x, "strike if 1=1", 5, 9);
        int[][] bad = {{2, 0, 9, 1}, {-1, 0, 9, 1}, {Integer.MAX_VALUE, 0, 9, 1}, {Integer.MIN_VALUE, 0, 9, 1}, {0, -1, 9, 2},
            {0, 0, 10000, 2}, {0, 1, 0, 2}, {0, 9999, 9998, 2}, {0, Integer.MAX_VALUE, Integer.MAX_VALUE, 2}};
        for (int[] b : bad) {
            Check.refused(x, "force " + b[0] + " from " + b[1] + " to " + b[2], x.force(b[0], b[1], b[2]), b[3]);
            Check.due("as ahead", x.told(1), 5);
        }
        Check.told(x, "of today alone", x.force(0, 0, 0));
        Check.due("today", x.told(1), 5);
        x.pass(1);
        Check.due("tomorrow", x.told(1), 100);
        Check.told(x, "the last day alone", x.force(0, 9999, 9999));
        Check.told(x, "all days", x.force(0, 0, 9999));
        Check.due("again", x.told(1), 5);
        Check.due("kept ahead of it", x.angleOf(0, 4), 3);
        Check.told(x, "on the day of the readings", x.force(1, 0, 0));
        Check.due("struck from now on", x.angleOf(0, 4), 0);
        Check.due("known so, too", x.known(0, 0), -2);
        Check.told(x, "not any more", x.force(1, 1, 1));
        Check.due("kept from now on", x.angleOf(0, 4), 3);
    }
}
