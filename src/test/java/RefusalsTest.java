import java.util.List;

/** A refused call answers NONE or false, tells its trouble, and changes nothing else; what asks changes nothing at all. */
public final class RefusalsTest {
    private static final int NO_INT = Integer.MIN_VALUE;
    private static final int MAX = Integer.MAX_VALUE;
    private static List<Long> asked;
    private static List<Long> made;

    public static void main(String[] args) {
        asked = Room.asked(Room.ready());
        made = Room.made(Room.ready());
        nothingAsked();
        land();
        book();
        rules();
        bases();
        net();
        chains();
        sky();
        firstNamed();
        firstNamedOfFull();
        Check.end();
    }

    /** The room as it would be without the calls ahead, both in what it tells and in what it makes. */
    private static void unchanged(String what, Room.Call call) {
        GreatArc x = Room.ready();
        call.of(x);
        Check.due("all is told as without " + what, Room.asked(x).equals(asked), true);
        GreatArc y = Room.ready();
        call.of(y);
        Check.due("all is made as without " + what, Room.made(y).equals(made), true);
    }

    private static void nothingAsked() {
        Check.says(58, "TROUBLE of the latest call that may be refused");
        unchanged("what is asked", x -> Room.asked(x).size());
        GreatArc x = Room.ready();
        Room.asked(x);
        Check.due("it stays while others are asked", x.trouble(), 0);
        x.mark(-1);
        Room.asked(x);
        Check.due("it stays while others are asked", x.trouble(), 1);
    }

    /** A call with one of its numbers put in each row's place; refused by the trouble told for it. */
    private static void refused(int trouble, String what, long none, Room.Call call) {
        GreatArc x = Room.ready();
        Check.due(what, call.of(x), none);
        Check.due("trouble of " + what, x.trouble(), trouble);
        unchanged(what, call);
    }

    private static void refused(int trouble, String what, Room.Call call) {
        refused(trouble, what, -1, call);
    }

    private static void denied(int trouble, String what, Room.Call call) {
        refused(trouble, what, 0, call);
    }

    private static void land() {
        Check.says(2, "true; false: 1; 2.");
        int[] far = {NO_INT, -1, MAX};
        for (int f : far) {
            denied(1, "cell of " + f, x -> x.cell(f, 9, 9) ? 1 : 0);
            denied(2, "a height of " + f, x -> x.cell(5, f, 9) ? 1 : 0);
            denied(2, "trees of " + f, x -> x.cell(5, 9, f) ? 1 : 0);
            denied(1, "a tower on " + f, x -> x.tower(f, 5) ? 1 : 0);
            denied(2, "a tower of " + f, x -> x.tower(0, f) ? 1 : 0);
            denied(1, "a lamp on " + f, x -> x.lamp(f, true) ? 1 : 0);
            denied(2, "haze on day " + f, x -> x.haze(f, 3, 1) ? 1 : 0);
            denied(2, "haze at hour " + f, x -> x.haze(2, f, 1) ? 1 : 0);
            denied(2, "a reach of " + f, x -> x.haze(2, 3, f) ? 1 : 0);
            refused(1, "a mark on " + f, x -> x.mark(f));
        }
        refused(5, "a mark where there is one", x -> x.mark(66));
    }

    private static void book() {
        Check.says(10, "NONE: 1 (ANGLE, PARTY); 2 (HOUR, a number out of bounds); 3.");
        int five = Check.bits(5);
        int[] far = {NO_INT, -1, MAX};
        for (int f : far) {
            refused(1, "an angle at " + f, x -> x.angle(f, 0, 1));
            refused(1, "an angle from " + f, x -> x.angle(0, f, 1));
            refused(1, "an angle to " + f, x -> x.angle(0, 1, f));
            refused(1, "a reading of " + f, x -> x.read(f, five, 3, 0));
            refused(1, "a reading by " + f, x -> x.read(0, five, 3, f));
            refused(2, "a reading at hour " + f, x -> x.read(0, five, f, 0));
            denied(1, "a strike of " + f, x -> x.strike(f, 0, true) ? 1 : 0);
            denied(1, "a strike by " + f, x -> x.strike(0, f, true) ? 1 : 0);
            refused(1, "a suspect " + f, x -> x.suspect(f));
        }
        int[] out = {Check.bits(-1), Check.bits(12960000), 0x7F800000, 0xFF800000};
        for (int bits : out) {
            refused(2, "a reading of bits " + bits, x -> x.read(0, bits, 3, 0));
        }
        refused(5, "an angle at its own end", x -> x.angle(1, 1, 2));
        refused(5, "an angle between one mark", x -> x.angle(0, 1, 1));
        denied(5, "a strike by no chief", x -> x.strike(0, 1, true) ? 1 : 0);
        denied(5, "a strike of one not seen", x -> x.strike(10, 0, true) ? 1 : 0);
        denied(5, "a strike of a struck one", x -> x.strike(7, 2, true) ? 1 : 0);
        denied(5, "taking back what isn't struck", x -> x.strike(0, 0, false) ? 1 : 0);
        refused(5, "a suspect not kept", x -> x.suspect(7));
        refused(5, "a suspect not seen", x -> x.suspect(10));
        refused(5, "a suspect already", x -> x.suspect(0));
    }

    private static void rules() {
        Check.says(17, "2 (both: THE TAPE stays)");
        int[] far = {NO_INT, -1, MAX};
        for (int f : far) {
            refused(2, "a rule of " + f + " bytes", x -> x.rule(f, 0, 9));
            refused(2, "a rule from " + f, x -> x.rule(7, f, 9));
            refused(2, "a rule to " + f, x -> x.rule(7, 0, f));
            denied(1, "force of rule " + f, x -> x.force(f, 0, 9) ? 1 : 0);
            denied(2, "force from " + f, x -> x.force(0, f, 9) ? 1 : 0);
            denied(2, "force to " + f, x -> x.force(0, 0, f) ? 1 : 0);
        }
        refused(2, "a rule of 21 bytes", x -> x.rule(21, 0, 9));
        refused(2, "a rule to a day ahead", x -> x.rule(7, 2, 1));
        denied(2, "force to a day ahead", x -> x.force(0, 2, 1) ? 1 : 0);
        denied(1, "force of a fifth rule", x -> x.force(4, 0, 9) ? 1 : 0);
    }

    private static void bases() {
        Check.says(22, "NONE: 1; 5 (one MARK twice; these MARKS have two BASES, or one by that PARTY); 3.");
        int[] far = {NO_INT, -1, MAX};
        for (int f : far) {
            refused(1, "a base of " + f, x -> x.base(f, 0, 0));
            refused(1, "a base to " + f, x -> x.base(0, f, 0));
            refused(1, "a base by " + f, x -> x.base(0, 2, f));
            refused(1, "a bar of " + f, x -> x.bar(f, 2000, 15, 0));
            refused(2, "a bar as long as " + f, x -> x.bar(0, f, 15, 0));
            refused(2, "a bar's rise of " + f, x -> x.bar(0, 2000, 15, f));
        }
        refused(2, "a bar as cold as it may not be", x -> x.bar(0, 2000, -21, 0));
        refused(2, "a bar as hot as it may not be", x -> x.bar(0, 2000, 61, 0));
        refused(5, "a base of one mark", x -> x.base(4, 4, 0));
        refused(5, "a base by that party", x -> x.base(1, 0, 0));
        refused(5, "a third base", x -> x.base(2, 3, 1));
        denied(2, "growth 51", x -> x.growth(51) ? 1 : 0);
        denied(2, "growth -1", x -> x.growth(-1) ? 1 : 0);
    }

    private static void net() {
        Check.says(31, "NONE: 1 (none, such that there aren't); 7; 5; 6.");
        int[] far = {NO_INT, -2, MAX};
        for (int f : far) {
            refused(1, "a triangle of " + f, x -> x.triangle(f, 1, 2, 0));
            refused(1, "a triangle of " + f, x -> x.triangle(0, f, 2, 0));
            refused(1, "a triangle of " + f, x -> x.triangle(0, 1, f, 0));
            refused(2, "an excess of " + f, x -> x.triangle(0, 1, 2, f));
            refused(1, "a round of " + f, x -> x.round(f, 3, -1, 0, 0, 0));
            refused(1, "a round of " + f, x -> x.round(0, f, -1, 0, 0, 0));
            refused(1, "adjusting " + f, x -> x.adjust(f, 0));
            refused(1, "adjusting " + f, x -> x.adjust(1, f));
        }
        refused(5, "a triangle of two marks", x -> x.triangle(0, 1, 3, 0));
        refused(5, "a round of one", x -> x.round(0, -1, 3, 0, 0, 0));
        refused(5, "a round that doesn't close", x -> x.round(1, 5, -1, 0, 0, 0));
        refused(1, "adjusting none", x -> x.adjust(0, 0));
        refused(5, "adjusting without a mean", x -> x.adjust(2, 0));
    }

    private static void chains() {
        Check.says(40, "NONE: 1 (BASE, MARKS, one MARK twice, a TRIANGLE, none at all).");
        int[] far = {NO_INT, -2, MAX};
        for (int f : far) {
            refused(1, "a chain from " + f, x -> x.chain(f, 0, 1));
            refused(1, "a chain to " + f, x -> x.chain(0, f, 1));
            refused(1, "a chain to " + f, x -> x.chain(0, 0, f));
            refused(1, "closing from " + f, x -> x.close(f, 1));
            refused(1, "closing to " + f, x -> x.close(0, f));
            refused(1, "checking from " + f, x -> x.check(f, 0, 2, 0, -1, 0, 0, 0, 0));
            refused(1, "checking to " + f, x -> x.check(0, f, 2, 0, -1, 0, 0, 0, 0));
            refused(1, "checking to " + f, x -> x.check(0, 0, f, 0, -1, 0, 0, 0, 0));
            refused(1, "checking over " + f, x -> x.check(0, 0, 2, f, -1, 0, 0, 0, 0));
        }
        refused(1, "a chain to one mark twice", x -> x.chain(0, 2, 2));
        refused(5, "no chain", x -> x.chain(0, 2, 4));
        refused(1, "closing on the same marks", x -> x.close(1, 2));
        refused(5, "closing without a chain", x -> x.close(1, 0));
        refused(1, "checking one mark twice", x -> x.check(0, 2, 2, 0, -1, 0, 0, 0, 0));
        refused(1, "checking none at all", x -> x.check(0, 0, 2, -1, 0, 0, 0, 0, 0));
        refused(0, "a check that isn't refused", 0, x -> x.check(0, 0, 2, 0, -1, 0, 0, 0, 0));
    }

    private static void sky() {
        Check.says(46, "NONE: 1; 2; 3.");
        int[] far = {NO_INT, -1, MAX};
        for (int f : far) {
            refused(1, "a star at " + f, x -> x.star(f, 0, 5, 5));
            refused(1, "a star to " + f, x -> x.star(0, f, 5, 5));
            refused(2, "a star of " + f, x -> x.star(0, 1, f, 5));
            refused(2, "a star at hour " + f, x -> x.star(0, 1, 5, f));
            refused(1, "a level from " + f, x -> x.level(f, 0, 5, 5));
            refused(1, "a level to " + f, x -> x.level(0, f, 5, 5));
            refused(2, "a level at hour " + f, x -> x.level(0, 1, 5, f));
            refused(1, "a mass on " + f, x -> x.mass(f, 5));
            refused(2, "a mass of " + f, x -> x.mass(5, f));
            refused(2, "an arc at " + f, x -> x.arc(f, 5));
            refused(2, "an arc of " + f, x -> x.arc(5, f));
            refused(2, f + " days", x -> x.pass(f));
        }
        refused(1, "a star at its own mark", x -> x.star(1, 1, 5, 5));
        refused(1, "a level at its own mark", x -> x.level(1, 1, 5, 5));
        refused(2, "a level up", x -> x.level(0, 1, 1000001, 5));
        refused(2, "a level down", x -> x.level(0, 1, -1000001, 5));
        refused(2, "no days", x -> x.pass(0));
    }

    /** Where several troubles are there, the one that the promise names first is told. */
    private static void firstNamed() {
        Check.says(26, "A TRIANGLE: its number. NONE: 1; 2; 5; 3.");
        denied(1, "no cell so high", x -> x.cell(1024, 2001, 91) ? 1 : 0);
        denied(1, "no mark so high", x -> x.tower(9, 100) ? 1 : 0);
        refused(1, "an angle at no mark to itself", x -> x.angle(9, 9, 0));
        refused(1, "a reading of no angle at no hour", x -> x.read(99, 0x7F800000, 24, 0));
        refused(1, "a reading by no party at no hour", x -> x.read(0, 0x7F800000, 24, 9));
        denied(1, "a strike of no reading by no chief", x -> x.strike(99, 1, true) ? 1 : 0);
        denied(1, "a strike by no party of one not seen", x -> x.strike(10, 9, true) ? 1 : 0);
        denied(1, "no rule in force to a day ahead", x -> x.force(9, 2, 1) ? 1 : 0);
        refused(1, "a base of no mark twice", x -> x.base(9, 9, 0));
        refused(1, "a base of one mark twice by no party", x -> x.base(1, 1, 9));
        refused(1, "no base's bar so short", x -> x.bar(9, 5, 99, 9999));
        refused(1, "a triangle of no angle and no excess", x -> x.triangle(99, 0, 0, -1));
        refused(2, "a triangle of one angle and no excess", x -> x.triangle(0, 0, 0, -1));
        refused(1, "a round of one that isn't there", x -> x.round(99, -1, 0, 0, 0, 0));
        refused(1, "a round of two marks and one that isn't there", x -> x.round(0, 1, 99, 0, 0, 0));
        refused(1, "a star at no mark at no hour", x -> x.star(9, 0, -1, 24));
        refused(1, "a level from no mark at no hour", x -> x.level(9, 0, 1000001, 24));
        refused(1, "no cell's mass of nothing", x -> x.mass(1024, 0));
        refused(2, "a fault by days that aren't", x -> x.rule(3, 2, 1));
    }

    /** No room is told last. */
    private static void firstNamedOfFull() {
        Check.says(3, "A MARK on a CELL: its number. NONE: 1; 5; 3.");
        GreatArc x = Room.ready();
        for (int m = 5; m < 30; m++) {
            x.mark(m);
        }
        Check.refused(x, "no room, and taken", x.mark(66), 5);
        Check.refused(x, "no room, and no cell", x.mark(1024), 1);
        Check.refused(x, "no room", x.mark(700), 3);
        for (int a = 7; a < 80; a++) {
            x.angle(0, 1, 2);
        }
        Check.refused(x, "no room, and to itself", x.angle(0, 1, 1), 5);
        Check.refused(x, "no room, and no mark", x.angle(0, 30, 1), 1);
        for (int r = 0; r < 20; r++) {
            Check.read(x, 9, 5);
        }
        Check.refused(x, "no room, and no hour", x.read(9, 0, 24, 0), 2);
        Check.refused(x, "no room, and no party", x.read(9, 0, 24, 9), 1);
        Check.refused(x, "no room", x.read(9, 0, 0, 0), 3);
        for (int t = 2; t < 30; t++) {
            x.triangle(0, 1, 2, 0);
        }
        Check.refused(x, "no room, and not so", x.triangle(0, 1, 1, 0), 5);
        Check.refused(x, "no room, and no excess", x.triangle(0, 1, 1, -1), 2);
        for (int r = 1; r < 12; r++) {
            x.round(0, 3, -1, 0, 0, 0);
        }
        Check.refused(x, "no room, and not so", x.round(0, -1, 0, 0, 0, 0), 5);
        for (int b = 3; b < 6; b++) {
            x.base(b, b + 1, 0);
        }
        Check.refused(x, "no room, and by that party", x.base(3, 4, 0), 5);
        Check.refused(x, "no room, and no mark", x.base(3, 30, 0), 1);
        for (int n = 0; n < 40; n++) {
            x.bar(5, 1000, 15, 0);
        }
        Check.refused(x, "no room, and too hot", x.bar(5, 1000, 61, 0), 2);
        fullSky();
        GreatArc y = Room.ready();
        for (int r = 4; r < 24; r++) {
            y.feed(0x636C6F73, 0x65203520, 0x20202020, 0x20202020, 0x20202020);
            y.rule(7, 0, 9);
        }
        y.feed(0x666F6F20, 0x20202020, 0x20202020, 0x20202020, 0x20202020);
        Check.refused(y, "no room, a fault, and no such days", y.rule(3, 5, 4), 2);
        Check.refused(y, "no room, and a fault", y.rule(3, 0, 9), 4);
        for (int i = 1; i < 200; i++) {
            y.haze(100 + i, 0, 5);
        }
        Check.refused(y, "no room, and too far", y.haze(50, 0, 33), 2);
        Check.refused(y, "no room", y.haze(50, 0, 32), 3);
    }

    private static void fullSky() {
        Check.says(54, "An ARC: its number. NONE: 2; 3.");
        GreatArc x = Room.ready();
        for (int s = 2; s < 20; s++) {
            x.star(0, 1, 5, 5);
        }
        for (int i = 3; i < 60; i++) {
            x.level(0, 1, 5, 5);
        }
        for (int m = 2; m < 12; m++) {
            x.mass(5, 5);
        }
        for (int a = 2; a < 30; a++) {
            x.arc(5, 5);
        }
        Check.refused(x, "no room, and no such way", x.star(0, 1, -1, 5), 2);
        Check.refused(x, "no room, and too high", x.level(0, 1, 1000001, 5), 2);
        Check.refused(x, "no room, and too heavy", x.mass(5, 1000001), 2);
        Check.refused(x, "no room, and too far north", x.arc(91, 5), 2);
        Check.refused(x, "no room", x.arc(90, 5), 3);
    }
}
