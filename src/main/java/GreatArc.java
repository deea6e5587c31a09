import java.util.Arrays;
import java.util.NoSuchElementException;

/** The computing room of a great arc. What each call promises stands in the survey's document. */
public final class GreatArc {
    public static final int NONE = -1;

    private static final int NOT_THERE = -2;
    private static final int NO_INT = -2147483648;
    private static final long NO_LONG = -9223372036854775808L;

    private static final int NO_SUCH = 1;
    private static final int BAD_NUMBER = 2;
    private static final int NO_ROOM = 3;
    private static final int FAULTY = 4;
    private static final int NOT_SO = 5;
    private static final int HANGING = 6;
    private static final int TOO_MANY = 7;

    private static final int WIDTH = 32;
    private static final int CELLS = 1024;
    private static final int MARKS = 30;
    private static final int ANGLES = 80;
    private static final int READINGS = 1200;
    private static final int TURNS = 20;
    private static final int TRIANGLES = 30;
    private static final int ROUNDS = 12;
    private static final int BASES = 6;
    private static final int BARS = 40;
    private static final int STARS = 20;
    private static final int LEVELS = 60;
    private static final int MASSES = 12;
    private static final int ARCS = 30;
    private static final int PARTIES = 8;
    private static final int RULES = 24;
    private static final int HAZES = 200;
    private static final int SUSPECTS = 12;
    private static final int CONDITIONS = 6;
    private static final int LINKS = 6;
    private static final int LAST_DAY = 9999;
    private static final int LAST_HOUR = 23;
    private static final int FULL = 12960000;
    private static final int HALF = 6480000;

    /** An object is used for at most so many calls, so no log that a call adds one row to grows longer. */
    private static final int CALLS = 512;

    private final Land land;
    private final Rules rules;
    private final Book book;
    private final Lengths lengths;
    private final Net net;
    private final Adjuster adjuster;
    private final Chains chains;
    private final Blunders blunders;
    private final Sights sights;
    private final int[] row;
    private int today;
    private int trouble;
    private int fault;
    private int place;

    public GreatArc() {
        land = new Land();
        rules = new Rules();
        book = new Book(rules);
        lengths = new Lengths();
        net = new Net(book);
        adjuster = new Adjuster(book, net);
        chains = new Chains(book, net, lengths);
        blunders = new Blunders(book, net);
        sights = new Sights(book);
        row = new int[LINKS];
    }

    // ---- land

    public boolean cell(int cell, int height, int trees) {
        if (!isCell(cell)) {
            return denied(NO_SUCH);
        }
        if (!isWithin(height, 0, 2000) || !isWithin(trees, 0, 90)) {
            return denied(BAD_NUMBER);
        }
        land.height[cell] = height;
        land.trees[cell] = trees;
        return granted();
    }

    public int mark(int cell) {
        if (!isCell(cell)) {
            return refused(NO_SUCH);
        }
        if (land.isTaken(cell)) {
            return refused(NOT_SO);
        }
        if (land.marks >= MARKS) {
            return refused(NO_ROOM);
        }
        return answered(land.addMark(cell));
    }

    public boolean tower(int mark, int high) {
        if (!land.isMark(mark)) {
            return denied(NO_SUCH);
        }
        if (!isWithin(high, 0, 99)) {
            return denied(BAD_NUMBER);
        }
        land.raise(mark, today, high);
        return granted();
    }

    public boolean lamp(int mark, boolean is) {
        if (!land.isMark(mark)) {
            return denied(NO_SUCH);
        }
        land.lit[mark] = is;
        return granted();
    }

    public boolean haze(int day, int hour, int reach) {
        if (!isDay(day) || !isHour(hour) || !isWithin(reach, 0, WIDTH)) {
            return denied(BAD_NUMBER);
        }
        return land.setReach(day, hour, reach) ? granted() : denied(NO_ROOM);
    }

    public int see(int from, int to, int day, int hour) {
        if (!land.isPair(from, to) || !isDay(day) || !isHour(hour)) {
            return NONE;
        }
        return land.lookOver(from, to, day, hour);
    }

    // ---- parties, angles, readings

    public int party(boolean chief) {
        return book.parties >= PARTIES ? refused(NO_ROOM) : answered(book.addParty(chief));
    }

    public int angle(int at, int from, int to) {
        if (!land.isMark(at) || !land.isMark(from) || !land.isMark(to)) {
            return refused(NO_SUCH);
        }
        if (at == from || at == to || from == to) {
            return refused(NOT_SO);
        }
        if (book.angles >= ANGLES) {
            return refused(NO_ROOM);
        }
        return answered(book.addAngle(at, from, to));
    }

    public int read(int angle, int bits, int hour, int party) {
        if (!book.isAngle(angle) || !book.isParty(party)) {
            return refused(NO_SUCH);
        }
        int whole = wholeOf(bits);
        if (!isHour(hour) || whole == NONE) {
            return refused(BAD_NUMBER);
        }
        if (!book.hasRoomFor(angle)) {
            return refused(NO_ROOM);
        }
        int number = book.addReading(angle, whole);
        book.sign(number, hour, party, today);
        return answered(number);
    }

    public int reading(int reading, int what) {
        if (!book.isReading(reading) || !isWithin(what, 0, Book.FACTS - 1)) {
            return NONE;
        }
        book.freshen(book.factOf(reading, Book.ANGLE));
        return book.factOf(reading, what);
    }

    public boolean strike(int reading, int party, boolean is) {
        if (!book.isReading(reading) || !book.isParty(party)) {
            return denied(NO_SUCH);
        }
        if (!book.chief[party] || !book.isSeen(reading) || book.isStruck(reading, today) == is) {
            return denied(NOT_SO);
        }
        return book.addStrike(reading, today, is) ? granted() : denied(NO_ROOM);
    }

    public int angleOf(int angle, int what) {
        if (!book.isAngle(angle)) {
            return NONE;
        }
        book.freshen(angle);
        if (isWithin(what, Book.MEAN, Book.MIDDLE)) {
            return book.tallyOf(angle, what);
        }
        switch (what) {
            case 8:
                return book.weightOf(angle, today);
            case 9:
                return book.isAgain(angle, today) ? 1 : 0;
            case 10:
                return book.at[angle];
            default:
                return NONE;
        }
    }

    public int known(int angle, int day) {
        if (!book.isAngle(angle) || !isWithin(day, 0, today)) {
            return NONE;
        }
        book.recount(angle, day);
        int mean = book.mean[angle];
        book.forget(angle);
        return mean;
    }

    public int led(int angle, int i) throws NoSuchElementException {
        if (!book.isAngle(angle)) {
            throw new NoSuchElementException();
        }
        book.freshen(angle);
        int reading = book.keptAt(angle, i);
        if (reading == NONE) {
            throw new NoSuchElementException();
        }
        return reading;
    }

    // ---- rules

    public int feed(int a, int b, int c, int d, int e) {
        return rules.takeIn(a, b, c, d, e);
    }

    public int rule(int n, int from, int to) {
        if (!isWithin(n, 0, rules.tape) || !isTime(from, to)) {
            return refused(BAD_NUMBER);
        }
        rules.tape = 0;
        boolean sound = rules.parser.parse(n);
        fault = rules.parser.fault;
        place = rules.parser.place;
        if (!sound) {
            return refused(FAULTY);
        }
        if (rules.rules >= RULES) {
            return refused(NO_ROOM);
        }
        int number = rules.add(from, to);
        if (rules.isStriking(number)) {
            book.forgetAll();
        }
        return answered(number);
    }

    public int fault() {
        return fault;
    }

    public int where() {
        return trouble == FAULTY ? place : NONE;
    }

    public boolean force(int rule, int from, int to) {
        if (!isWithin(rule, 0, rules.rules - 1)) {
            return denied(NO_SUCH);
        }
        if (!isTime(from, to)) {
            return denied(BAD_NUMBER);
        }
        rules.putInForce(rule, from, to);
        if (rules.isStriking(rule)) {
            book.forgetAll();
        }
        return granted();
    }

    public int told(int what) {
        switch (what) {
            case 0:
                return rules.leastAngle(today);
            case 1:
                return rules.allowedMiss(today);
            default:
                return NONE;
        }
    }

    // ---- bases

    public int base(int one, int other, int party) {
        if (!land.isMark(one) || !land.isMark(other) || !book.isParty(party)) {
            return refused(NO_SUCH);
        }
        if (one == other || !lengths.mayLay(one, other, party)) {
            return refused(NOT_SO);
        }
        if (lengths.bases >= BASES) {
            return refused(NO_ROOM);
        }
        return answered(lengths.addBase(one, other, party));
    }

    public int bar(int base, int length, int heat, int rise) {
        if (!lengths.isBase(base)) {
            return refused(NO_SUCH);
        }
        if (!isWithin(length, 1000, 100000) || !isWithin(heat, -20, 60) || !isWithin(rise, 0, 999) || rise >= length) {
            return refused(BAD_NUMBER);
        }
        if (lengths.bars[base] >= BARS) {
            return refused(NO_ROOM);
        }
        return answered(lengths.addBar(base, length, heat, rise));
    }

    public boolean growth(int v) {
        if (!isWithin(v, 0, 50)) {
            return denied(BAD_NUMBER);
        }
        lengths.growth = v;
        return granted();
    }

    public int baseOf(int base, int what) {
        if (!lengths.isBase(base)) {
            return NONE;
        }
        switch (what) {
            case 0:
                return lengths.lengthOf(base);
            case 1:
                return lengths.bars[base];
            case 2:
                return lengths.leastOf(base);
            case 3:
                return lengths.mostOf(base);
            case 4:
                return lengths.laidAgain(base);
            default:
                return NONE;
        }
    }

    // ---- triangles, rounds, adjusting

    public int triangle(int a, int b, int c, int excess) {
        if (!book.isAngle(a) || !book.isAngle(b) || !book.isAngle(c)) {
            return refused(NO_SUCH);
        }
        if (!isWithin(excess, 0, 9999)) {
            return refused(BAD_NUMBER);
        }
        if (!net.isTriangular(a, b, c)) {
            return refused(NOT_SO);
        }
        if (net.triangles >= TRIANGLES) {
            return refused(NO_ROOM);
        }
        return answered(net.addTriangle(a, b, c, excess));
    }

    public int round(int a, int b, int c, int d, int e, int f) {
        int size = fillRow(a, b, c, d, e, f);
        for (int i = 0; i < size; i++) {
            if (!book.isAngle(row[i])) {
                return refused(NO_SUCH);
            }
        }
        if (!net.goesRound(row, size)) {
            return refused(NOT_SO);
        }
        if (net.rounds >= ROUNDS) {
            return refused(NO_ROOM);
        }
        return answered(net.addRound(row, size));
    }

    public int miss(int number, boolean round) {
        book.freshenAll();
        if (round) {
            return isWithin(number, 0, net.rounds - 1) ? net.roundMiss(number, book.mean) : NO_INT;
        }
        return net.isTriangle(number) ? net.triangleMiss(number, book.mean) : NO_INT;
    }

    public int well(int triangle) {
        if (!net.isTriangle(triangle)) {
            return NONE;
        }
        book.freshenAll();
        return net.isWell(triangle, rules.leastAngle(today)) ? 1 : 0;
    }

    public int wide() {
        book.freshenAll();
        return net.wideOnes(rules.allowedMiss(today));
    }

    public int adjust(int triangles, int rounds) {
        int asked = Integer.bitCount(triangles) + Integer.bitCount(rounds);
        if (asked == 0 || (triangles >>> net.triangles) != 0 || (rounds >>> net.rounds) != 0) {
            return refused(NO_SUCH);
        }
        if (asked > CONDITIONS) {
            return refused(TOO_MANY);
        }
        book.freshenAll();
        if (!adjuster.gather(triangles, rounds)) {
            return refused(NOT_SO);
        }
        adjuster.weigh(today);
        if (!adjuster.solve()) {
            return refused(HANGING);
        }
        return answered(adjuster.keep());
    }

    public int change(int angle) {
        return book.isAngle(angle) ? adjuster.thousandths(angle) : NO_INT;
    }

    public int part(int angle, boolean denominator) {
        return book.isAngle(angle) ? adjuster.lowestTerm(angle, denominator) : NO_INT;
    }

    public long cost() {
        return adjuster.leastSum;
    }

    // ---- sides and chains

    public int sine(int ticks) {
        return isWithin(ticks, 0, HALF) ? sineOf(ticks / 10) : NONE;
    }

    public int chain(int base, int one, int other) {
        if (!lengths.isBase(base) || !land.isPair(one, other)) {
            return refused(NO_SUCH);
        }
        book.freshenAll();
        int why = chains.seek(base, sideOf(one, other), rules.leastAngle(today));
        return why == 0 ? answered(chains.toldMost - chains.toldLeast) : refused(why);
    }

    public int link(int i) {
        return isWithin(i, 0, chains.toldLength - 1) ? chains.told[i] : NONE;
    }

    public int side(boolean most) {
        return most ? chains.toldMost : chains.toldLeast;
    }

    public int close(int from, int to) {
        if (!lengths.isBase(from) || !lengths.isBase(to) || lengths.sideAt(from) == lengths.sideAt(to)) {
            return refused(NO_SUCH);
        }
        book.freshenAll();
        int why = chains.seek(from, lengths.sideAt(to), rules.leastAngle(today));
        return why == 0 ? answered(chains.apartFrom(to)) : refused(why);
    }

    public int check(int base, int one, int other, int a, int b, int c, int d, int e, int f) {
        int size = fillRow(a, b, c, d, e, f);
        if (!lengths.isBase(base) || !land.isPair(one, other) || size == 0) {
            return refused(NO_SUCH);
        }
        for (int i = 0; i < size; i++) {
            if (!net.isTriangle(row[i])) {
                return refused(NO_SUCH);
            }
        }
        book.freshenAll();
        int allowed = rules.allowedMiss(today);
        int leastAngle = rules.leastAngle(today);
        return answered(chains.firstBad(lengths.sideAt(base), sideOf(one, other), row, size, allowed, leastAngle));
    }

    // ---- blunders

    public int suspect(int reading) {
        if (!book.isReading(reading)) {
            return refused(NO_SUCH);
        }
        book.freshenAll();
        if (!book.isKept(reading) || blunders.isSuspect(reading)) {
            return refused(NOT_SO);
        }
        if (blunders.suspects >= SUSPECTS) {
            return refused(NO_ROOM);
        }
        return answered(blunders.addSuspect(reading));
    }

    public int clear() {
        int were = blunders.suspects;
        blunders.suspects = 0;
        return were;
    }

    public int blunder() {
        book.freshenAll();
        return blunders.fewest(rules.allowedMiss(today));
    }

    public int guilty(int i) {
        return isWithin(i, 0, blunders.guilts - 1) ? blunders.guilt[i] : NONE;
    }

    public int rivals() {
        return blunders.sets;
    }

    // ---- stars, levels, masses, figure

    public int star(int at, int to, int ticks, int hour) {
        if (!land.isPair(at, to)) {
            return refused(NO_SUCH);
        }
        if (!isWithin(ticks, 0, FULL - 1) || !isHour(hour)) {
            return refused(BAD_NUMBER);
        }
        if (sights.stars >= STARS) {
            return refused(NO_ROOM);
        }
        return answered(sights.addStar(at, to, ticks));
    }

    public int north(int at, int to) {
        if (!land.isPair(at, to)) {
            return NONE;
        }
        book.freshenAll();
        sights.carryNorth(at, to);
        return sights.northOf(at, to);
    }

    public int steps(int at, int to) {
        if (!land.isPair(at, to)) {
            return NONE;
        }
        book.freshenAll();
        sights.carryNorth(at, to);
        return sights.stepsOf(at, to);
    }

    public int level(int from, int to, int up, int hour) {
        if (!land.isPair(from, to)) {
            return refused(NO_SUCH);
        }
        if (!isWithin(up, -1000000, 1000000) || !isHour(hour)) {
            return refused(BAD_NUMBER);
        }
        if (sights.levels >= LEVELS) {
            return refused(NO_ROOM);
        }
        return answered(sights.addLevel(from, to, up));
    }

    public int between(int one, int other) {
        return land.isPair(one, other) ? sights.heightFrom(one, other) : NO_INT;
    }

    public int doubt(int one, int other) {
        return land.isPair(one, other) ? sights.doubtOf(one, other) : NONE;
    }

    public int mass(int cell, int heavy) {
        if (!isCell(cell)) {
            return refused(NO_SUCH);
        }
        if (!isWithin(heavy, 1, 1000000)) {
            return refused(BAD_NUMBER);
        }
        if (land.masses >= MASSES) {
            return refused(NO_ROOM);
        }
        return answered(land.addMass(cell, heavy));
    }

    public int pull(int mark, boolean y) {
        return land.isMark(mark) ? land.pullAt(mark, y) : NO_INT;
    }

    public int arc(int degree, int length) {
        if (!isWithin(degree, 0, 90) || !isWithin(length, 1, 1000000)) {
            return refused(BAD_NUMBER);
        }
        if (lengths.arcs >= ARCS) {
            return refused(NO_ROOM);
        }
        return answered(lengths.addArc(degree, length));
    }

    public long figure(boolean p) {
        return lengths.fit(p);
    }

    // ---- days

    public int pass(int days) {
        if (!isWithin(days, 1, 1000) || today + days > LAST_DAY) {
            return refused(BAD_NUMBER);
        }
        today += days;
        return answered(today);
    }

    public int count(int what) {
        switch (what) {
            case 0:
                return land.marks;
            case 1:
                return book.angles;
            case 2:
                return book.readings;
            case 3:
                return rules.rules;
            case 4:
                return lengths.bases;
            case 5:
                return net.triangles;
            case 6:
                return net.rounds;
            case 7:
                return book.parties;
            case 8:
                return sights.stars;
            case 9:
                return sights.levels;
            case 10:
                return blunders.suspects;
            case 11:
                return today;
            case 12:
                return rules.tape;
            case 13:
                book.freshenAll();
                return book.againOnes(today);
            default:
                return NONE;
        }
    }

    public int trouble() {
        return trouble;
    }

    // ---- what the calls share

    private int refused(int why) {
        trouble = why;
        return NONE;
    }

    private int answered(int answer) {
        trouble = 0;
        return answer;
    }

    private boolean denied(int why) {
        trouble = why;
        return false;
    }

    private boolean granted() {
        trouble = 0;
        return true;
    }

    /** Puts what stands ahead of the first -1 into the row, and tells how many these are. */
    private int fillRow(int a, int b, int c, int d, int e, int f) {
        row[0] = a;
        row[1] = b;
        row[2] = c;
        row[3] = d;
        row[4] = e;
        row[5] = f;
        int size = 0;
        while (size < LINKS && row[size] != NONE) {
            size++;
        }
        return size;
    }

    private static boolean isWithin(int number, int least, int most) {
        return number >= least && number <= most;
    }

    private static boolean isCell(int cell) {
        return isWithin(cell, 0, CELLS - 1);
    }

    private static boolean isDay(int day) {
        return isWithin(day, 0, LAST_DAY);
    }

    private static boolean isHour(int hour) {
        return isWithin(hour, 0, LAST_HOUR);
    }

    private static boolean isTime(int from, int to) {
        return isDay(from) && isDay(to) && from <= to;
    }

    /** One number for the side of two marks; sides compare by it as by lesser mark, then the other one. */
    private static int sideOf(int one, int other) {
        return Math.min(one, other) * WIDTH + Math.max(one, other);
    }

    /** Whether what stands at a place of a row stands ahead of it, too. */
    private static boolean isAhead(int[] row, int place) {
        for (int i = 0; i < place; i++) {
            if (row[i] == row[place]) {
                return true;
            }
        }
        return false;
    }

    private static int sineOf(int seconds) {
        long product = (long) seconds * (648000 - seconds);
        return (int) (4000000L * product / (524880000000L - product));
    }

    /** The whole that a float's bits are cut to: -2 if they are no number, NONE if it is out of bounds. */
    private static int wholeOf(int bits) {
        int exponent = (bits >>> 23) & 255;
        int fraction = bits & 0x7FFFFF;
        if (exponent == 255) {
            return fraction != 0 ? NOT_THERE : NONE;
        }
        if (exponent < 127) {
            return 0;
        }
        if (bits < 0 || exponent > 150) {
            return NONE;
        }
        int whole = (fraction | 0x800000) >>> (150 - exponent);
        return whole < FULL ? whole : NONE;
    }

    /** Cells, the marks on them with towers and lamps, the haze, and the masses that pull. */
    private static final class Land {
        final int[] height = new int[CELLS];
        final int[] trees = new int[CELLS];
        final int[] spot = new int[MARKS];
        final boolean[] lit = new boolean[MARKS];
        int marks;
        int masses;
        private final int[] towerMark = new int[CALLS];
        private final int[] towerDay = new int[CALLS];
        private final int[] towerHigh = new int[CALLS];
        private int towers;
        private final int[] hazeTime = new int[HAZES];
        private final int[] hazeReach = new int[HAZES];
        private int hazes;
        private final int[] massCell = new int[MASSES];
        private final int[] massHeavy = new int[MASSES];

        boolean isMark(int mark) {
            return mark >= 0 && mark < marks;
        }

        boolean isPair(int one, int other) {
            return isMark(one) && isMark(other) && one != other;
        }

        boolean isTaken(int cell) {
            for (int m = 0; m < marks; m++) {
                if (spot[m] == cell) {
                    return true;
                }
            }
            return false;
        }

        int addMark(int cell) {
            spot[marks] = cell;
            marks++;
            return marks - 1;
        }

        void raise(int mark, int day, int high) {
            if (towers >= CALLS) {
                return;
            }
            towerMark[towers] = mark;
            towerDay[towers] = day;
            towerHigh[towers] = high;
            towers++;
        }

        private int towerOn(int mark, int day) {
            for (int t = towers - 1; t >= 0; t--) {
                if (towerMark[t] == mark && towerDay[t] <= day) {
                    return towerHigh[t];
                }
            }
            return 0;
        }

        private int hazeAt(int time) {
            for (int h = 0; h < hazes; h++) {
                if (hazeTime[h] == time) {
                    return h;
                }
            }
            return NONE;
        }

        boolean setReach(int day, int hour, int reach) {
            int time = day * 24 + hour;
            int h = hazeAt(time);
            if (h == NONE) {
                if (hazes >= HAZES) {
                    return false;
                }
                h = hazes;
                hazes++;
            }
            hazeTime[h] = time;
            hazeReach[h] = reach;
            return true;
        }

        private int reachTo(int mark, int day, int hour) {
            int h = hazeAt(day * 24 + hour);
            int reach = h == NONE ? WIDTH : hazeReach[h];
            boolean shines = lit[mark] && (hour < 5 || hour > 19);
            return shines ? 2 * reach : reach;
        }

        private int topOf(int mark, int day) {
            return height[spot[mark]] + 5 + towerOn(mark, day);
        }

        int lookOver(int from, int to, int day, int hour) {
            int x = spot[from] % WIDTH;
            int y = spot[from] / WIDTH;
            int dx = spot[to] % WIDTH - x;
            int dy = spot[to] / WIDTH - y;
            int n = Math.max(Math.abs(dx), Math.abs(dy));
            if (n > reachTo(to, day, hour)) {
                return 1;
            }
            int near = topOf(from, day);
            int far = topOf(to, day);
            for (int k = 1; k < n; k++) {
                int cell = (y + Math.floorDiv(2 * k * dy + n, 2 * n)) * WIDTH + x + Math.floorDiv(2 * k * dx + n, 2 * n);
                int line = (near * (n - k) + far * k) / n;
                if (height[cell] + trees[cell] + k * (n - k) / 4 >= line) {
                    return 1 + k;
                }
            }
            return 0;
        }

        int addMass(int cell, int heavy) {
            massCell[masses] = cell;
            massHeavy[masses] = heavy;
            masses++;
            return masses - 1;
        }

        int pullAt(int mark, boolean y) {
            int sum = 0;
            for (int m = 0; m < masses; m++) {
                int dx = massCell[m] % WIDTH - spot[mark] % WIDTH;
                int dy = massCell[m] / WIDTH - spot[mark] / WIDTH;
                int apart = dx * dx + dy * dy;
                if (apart > 0) {
                    sum += massHeavy[m] * (y ? dy : dx) / apart;
                }
            }
            return sum;
        }
    }

    /** Reads a text as a rule and writes it as steps: operands ahead of the sign that joins them. */
    private static final class Parser {
        static final int TAPE = 300;
        static final int STEPS = 160;
        static final int OPERANDS = 30;

        static final int NO_ACT = 0;
        static final int STRIKE = 1;
        static final int WEIGHT = 2;
        static final int AGAIN = 3;
        static final int LEAST = 4;
        static final int CLOSE = 5;

        /** A step of 0 and more is a whole; below it come the names, -1 - name, and below these the signs. */
        static final int NAMES = 7;
        static final int TIMES = -11;
        static final int PLUS = -12;
        static final int MINUS = -13;
        static final int BELOW = -14;
        static final int ABOVE = -15;
        static final int SAME = -16;
        static final int NOT = -17;
        static final int AND = -18;
        static final int OR = -19;
        private static final int BRACKET = -20;

        private static final int FORM = 1;
        private static final int UNKNOWN = 2;
        private static final int MANY = 3;
        private static final int NESTED = 8;

        /** Kinds of tokens; a single sign is its own kind. */
        private static final int END = 0;
        private static final int BAD = 1;
        private static final int WORD = 2;
        private static final int WHOLE = 3;

        /** What the next token has to be, or what it has to go on from. */
        private static final int ACT_DUE = 0;
        private static final int IF_DUE = 1;
        private static final int ONE_DUE = 2;
        private static final int OPERAND_DUE = 3;
        private static final int AFTER_OPERAND = 4;
        private static final int AFTER_ONE = 5;
        private static final int DONE = 6;

        /** Which sum an operand stands in: one alone, or one ahead of or behind a comparing sign. */
        private static final int ALONE = 0;
        private static final int LEFT = 1;
        private static final int RIGHT = 2;

        final int[] text = new int[TAPE];
        final int[] steps = new int[STEPS];
        int size;
        int split;
        int act;
        int fault;
        int place;
        private int length;
        private int start;
        private int stop;
        private int kind;
        private int whole;
        private int state;
        private int hand;
        private int operands;
        private int nots;
        private int open;
        /** Signs that wait for what stands behind them. */
        private final int[] waiting = new int[STEPS];
        private int waits;

        /** Steps up to split are the sum, those from it on the condition. */
        boolean parse(int n) {
            length = n;
            stop = 0;
            size = 0;
            split = 0;
            fault = 0;
            place = 0;
            state = ACT_DUE;
            hand = ALONE;
            operands = 0;
            nots = 0;
            open = 0;
            waits = 0;
            // a token is a byte at least, and the end is met behind the last
            for (int i = 0; i <= TAPE && state != DONE && fault == 0; i++) {
                next();
                takeToken();
            }
            return fault == 0;
        }

        private void takeToken() {
            switch (state) {
                case ACT_DUE:
                    takeAct();
                    break;
                case IF_DUE:
                    takeIf();
                    break;
                case ONE_DUE:
                    takeOne();
                    break;
                case OPERAND_DUE:
                    takeOperand();
                    break;
                case AFTER_OPERAND:
                    takeSign();
                    break;
                default:
                    takeJoint();
                    break;
            }
        }

        private void takeAct() {
            act = actHere();
            if (kind != WORD || isJoint()) {
                fail(FORM);
            } else if (act == NO_ACT) {
                fail(UNKNOWN);
            } else {
                state = act == STRIKE || act == AGAIN ? IF_DUE : OPERAND_DUE;
            }
        }

        private void takeIf() {
            if (isWord("if")) {
                state = ONE_DUE;
            } else {
                fail(FORM);
            }
        }

        private void takeOne() {
            if (isWord("not")) {
                takeNot();
            } else if (kind == '(') {
                takeBracket();
            } else {
                nots = 0;
                hand = LEFT;
                takeOperand();
            }
        }

        private void takeNot() {
            nots++;
            if (nots > NESTED) {
                fail(MANY);
            } else if (waits > 0 && waiting[waits - 1] == NOT) {
                // a second one undoes the first
                waits--;
            } else {
                hold(NOT);
            }
        }

        private void takeBracket() {
            open++;
            if (open > NESTED) {
                fail(MANY);
            } else {
                nots = 0;
                hold(BRACKET);
            }
        }

        private void takeOperand() {
            int name = nameHere();
            if (kind != WHOLE && (kind != WORD || isJoint())) {
                fail(FORM);
            } else if (kind == WORD && name == NONE) {
                fail(UNKNOWN);
            } else if (operands >= OPERANDS) {
                fail(MANY);
            } else {
                operands++;
                write(kind == WHOLE ? whole : -1 - name);
                state = AFTER_OPERAND;
            }
        }

        private void takeSign() {
            int sign = signHere();
            if (sign == TIMES || sign == PLUS || sign == MINUS) {
                join(sign, OPERAND_DUE);
            } else if (hand == RIGHT) {
                takeJoint();
            } else if (hand == ALONE) {
                endSum();
            } else if (sign != NONE) {
                hand = RIGHT;
                join(sign, OPERAND_DUE);
            } else {
                fail(FORM);
            }
        }

        private void endSum() {
            release(BRACKET);
            split = size;
            if (kind == END) {
                state = DONE;
            } else if (act == WEIGHT) {
                takeIf();
            } else {
                fail(FORM);
            }
        }

        private void takeJoint() {
            if (isWord("and")) {
                join(AND, ONE_DUE);
            } else if (isWord("or")) {
                join(OR, ONE_DUE);
            } else if (kind == ')' && open > 0) {
                open--;
                release(BRACKET);
                waits--;
                state = AFTER_ONE;
            } else if (kind == END && open == 0) {
                release(BRACKET);
                state = DONE;
            } else {
                fail(FORM);
            }
        }

        private void join(int sign, int then) {
            release(sign);
            hold(sign);
            state = then;
        }

        /** Writes the signs that wait and bind no looser than this one. */
        private void release(int sign) {
            while (waits > 0 && looseness(waiting[waits - 1]) <= looseness(sign) && waiting[waits - 1] != BRACKET) {
                waits--;
                write(waiting[waits]);
            }
        }

        private void hold(int sign) {
            if (waits < STEPS) {
                waiting[waits] = sign;
                waits++;
            }
        }

        private static int looseness(int sign) {
            switch (sign) {
                case TIMES:
                    return 1;
                case PLUS:
                case MINUS:
                    return 2;
                case BELOW:
                case ABOVE:
                case SAME:
                    return 3;
                case NOT:
                    return 4;
                case AND:
                    return 5;
                default:
                    return 6;
            }
        }

        private int signHere() {
            switch (kind) {
                case '*':
                    return TIMES;
                case '+':
                    return PLUS;
                case '-':
                    return MINUS;
                case '<':
                    return BELOW;
                case '>':
                    return ABOVE;
                case '=':
                    return SAME;
                default:
                    return NONE;
            }
        }

        private void fail(int number) {
            fault = number;
            place = start;
        }

        private void write(int step) {
            if (size < STEPS) {
                steps[size] = step;
                size++;
            }
        }

        private void next() {
            start = stop;
            while (start < length && text[start] == ' ') {
                start++;
            }
            stop = start;
            if (start >= length) {
                kind = END;
            } else if (isLetter(text[start])) {
                takeWord();
            } else if (isDigit(text[start])) {
                takeWhole();
            } else {
                stop = start + 1;
                kind = "<>=+-*()".indexOf((char) text[start]) >= 0 ? text[start] : BAD;
            }
        }

        private void takeWord() {
            while (stop < length && isLetter(text[stop])) {
                stop++;
            }
            kind = stop - start <= 8 ? WORD : BAD;
        }

        private void takeWhole() {
            whole = 0;
            while (stop < length && isDigit(text[stop])) {
                whole = whole * 10 + text[stop] - '0';
                stop++;
            }
            kind = stop - start <= 7 ? WHOLE : BAD;
        }

        private boolean isWord(String word) {
            if (kind != WORD || stop - start != word.length()) {
                return false;
            }
            for (int i = 0; i < word.length(); i++) {
                if (text[start + i] != word.charAt(i)) {
                    return false;
                }
            }
            return true;
        }

        private boolean isJoint() {
            return isWord("if") || isWord("and") || isWord("or") || isWord("not");
        }

        private int actHere() {
            return isWord("strike") ? STRIKE
                : isWord("weight") ? WEIGHT
                : isWord("again") ? AGAIN
                : isWord("least") ? LEAST
                : isWord("close") ? CLOSE
                : NO_ACT;
        }

        private int nameHere() {
            return isWord("off") ? Rules.OFF
                : isWord("hour") ? Rules.HOUR
                : isWord("party") ? Rules.PARTY
                : isWord("count") ? Rules.COUNT
                : isWord("spread") ? Rules.SPREAD
                : isWord("kept") ? Rules.KEPT
                : isWord("at") ? Rules.AT
                : NONE;
        }

        private static boolean isLetter(int c) {
            return c >= 'a' && c <= 'z';
        }

        private static boolean isDigit(int c) {
            return c >= '0' && c <= '9';
        }
    }

    /** The tape, the rules that came from it, and what they say of the facts that are laid before them. */
    private static final class Rules {
        static final int OFF = 0;
        static final int HOUR = 1;
        static final int PARTY = 2;
        static final int COUNT = 3;
        static final int SPREAD = 4;
        static final int KEPT = 5;
        static final int AT = 6;

        private static final long BOUND = 1000000000L;

        final Parser parser = new Parser();
        final int[] facts = new int[Parser.NAMES];
        int tape;
        int rules;
        private final int[] act = new int[RULES];
        private final int[] from = new int[RULES];
        private final int[] to = new int[RULES];
        private final int[] split = new int[RULES];
        private final int[] size = new int[RULES];
        private final int[] steps = new int[RULES * Parser.STEPS];
        private final long[] stack = new long[Parser.OPERANDS + 1];

        int takeIn(int a, int b, int c, int d, int e) {
            if (tape + 20 > Parser.TAPE) {
                return NONE;
            }
            takeFour(a);
            takeFour(b);
            takeFour(c);
            takeFour(d);
            takeFour(e);
            return tape;
        }

        private void takeFour(int number) {
            for (int shift = 24; shift >= 0; shift -= 8) {
                parser.text[tape] = (number >>> shift) & 255;
                tape++;
            }
        }

        /** Takes over what the parser read last. */
        int add(int first, int last) {
            act[rules] = parser.act;
            split[rules] = parser.split;
            size[rules] = parser.size;
            System.arraycopy(parser.steps, 0, steps, rules * Parser.STEPS, parser.size);
            rules++;
            putInForce(rules - 1, first, last);
            return rules - 1;
        }

        void putInForce(int rule, int first, int last) {
            from[rule] = first;
            to[rule] = last;
        }

        boolean isStriking(int rule) {
            return act[rule] == Parser.STRIKE;
        }

        void clearFacts() {
            Arrays.fill(facts, 0);
        }

        int striker(int day) {
            for (int r = 0; r < rules; r++) {
                if (isDue(r, Parser.STRIKE, day) && holds(r)) {
                    return r;
                }
            }
            return NOT_THERE;
        }

        int weight(int day) {
            for (int r = 0; r < rules; r++) {
                if (isDue(r, Parser.WEIGHT, day) && holds(r)) {
                    return Math.max(1, Math.min(9, total(r)));
                }
            }
            return 1;
        }

        boolean sendsAgain(int day) {
            for (int r = 0; r < rules; r++) {
                if (isDue(r, Parser.AGAIN, day) && holds(r)) {
                    return true;
                }
            }
            return false;
        }

        int leastAngle(int day) {
            return latest(Parser.LEAST, day, 0);
        }

        int allowedMiss(int day) {
            return Math.max(0, latest(Parser.CLOSE, day, 100));
        }

        private int latest(int what, int day, int otherwise) {
            clearFacts();
            for (int r = rules - 1; r >= 0; r--) {
                if (isDue(r, what, day)) {
                    return total(r);
                }
            }
            return otherwise;
        }

        private boolean isDue(int rule, int what, int day) {
            return act[rule] == what && from[rule] <= day && day <= to[rule];
        }

        private boolean holds(int rule) {
            return split[rule] == size[rule] || run(rule, split[rule], size[rule]) != 0;
        }

        private int total(int rule) {
            return (int) run(rule, 0, split[rule]);
        }

        private long run(int rule, int first, int end) {
            int high = 0;
            for (int i = rule * Parser.STEPS + first; i < rule * Parser.STEPS + end; i++) {
                int step = steps[i];
                if (step >= -Parser.NAMES) {
                    if (high < stack.length) {
                        stack[high] = step >= 0 ? step : facts[-1 - step];
                        high++;
                    }
                } else if (step == Parser.NOT) {
                    if (high > 0) {
                        stack[high - 1] = 1 - stack[high - 1];
                    }
                } else if (high > 1) {
                    high--;
                    stack[high - 1] = joined(step, stack[high - 1], stack[high]);
                }
            }
            return high > 0 ? stack[0] : 0;
        }

        private static long joined(int sign, long a, long b) {
            long joined;
            switch (sign) {
                case Parser.PLUS:
                    joined = a + b;
                    break;
                case Parser.MINUS:
                    joined = a - b;
                    break;
                case Parser.TIMES:
                    joined = a * b;
                    break;
                case Parser.BELOW:
                    return a < b ? 1 : 0;
                case Parser.ABOVE:
                    return a > b ? 1 : 0;
                case Parser.SAME:
                    return a == b ? 1 : 0;
                case Parser.AND:
                    return a & b;
                default:
                    return a | b;
            }
            return joined > BOUND ? BOUND : joined < -BOUND ? -BOUND : joined;
        }
    }

    /** Parties, angles, and their readings with what is made of them. */
    private static final class Book {
        /** Of a reading, in the order in which reading() tells them. */
        static final int ANGLE = 0;
        static final int WHOLE = 1;
        static final int HOUR = 2;
        static final int PARTY = 3;
        static final int DAY = 4;
        static final int HAND = 5;
        static final int STRIKER = 6;
        static final int IS_KEPT = 7;
        static final int OFF = 8;
        static final int FACTS = 9;

        /** Of an angle, in the order in which angleOf() tells them. */
        static final int MEAN = 0;
        static final int SPREAD = 1;
        static final int LEAST = 2;
        static final int MOST = 3;
        static final int KEPT = 4;
        static final int SEEN = 5;
        static final int FILLED = 6;
        static final int MIDDLE = 7;
        static final int SUM = 8;
        static final int TALLIES = 9;

        final boolean[] chief = new boolean[PARTIES];
        final int[] at = new int[ANGLES];
        final int[] from = new int[ANGLES];
        final int[] to = new int[ANGLES];
        /** Apart from the other tallies, as misses are told by rows of means, tried ones too. */
        final int[] mean = new int[ANGLES];
        int parties;
        int angles;
        int readings;
        private final Rules rules;
        private final int[] facts = new int[READINGS * FACTS];
        private final int[] rows = new int[ANGLES * TURNS];
        private final int[] tally = new int[ANGLES * TALLIES];
        private final int[] order = new int[TURNS];
        private final int[] lastStrike = new int[READINGS];
        private final int[] strikeDay = new int[CALLS];
        private final int[] strikeAhead = new int[CALLS];
        private final boolean[] strikeIs = new boolean[CALLS];
        private int strikes;
        private final boolean[] stale = new boolean[ANGLES];
        private boolean someStale;

        Book(Rules theirRules) {
            rules = theirRules;
        }

        boolean isParty(int party) {
            return party >= 0 && party < parties;
        }

        boolean isAngle(int angle) {
            return angle >= 0 && angle < angles;
        }

        boolean isReading(int reading) {
            return reading >= 0 && reading < readings;
        }

        int addParty(boolean isChief) {
            chief[parties] = isChief;
            parties++;
            return parties - 1;
        }

        int addAngle(int mark, int one, int other) {
            at[angles] = mark;
            from[angles] = one;
            to[angles] = other;
            forget(angles);
            angles++;
            return angles - 1;
        }

        boolean hasRoomFor(int angle) {
            return readings < READINGS && tally[angle * TALLIES + FILLED] < TURNS;
        }

        int addReading(int angle, int whole) {
            int reading = readings;
            facts[reading * FACTS + ANGLE] = angle;
            facts[reading * FACTS + WHOLE] = whole;
            lastStrike[reading] = NONE;
            int filled = tally[angle * TALLIES + FILLED];
            rows[angle * TURNS + filled] = reading;
            tally[angle * TALLIES + FILLED] = filled + 1;
            readings++;
            forget(angle);
            return reading;
        }

        void sign(int reading, int hour, int party, int day) {
            facts[reading * FACTS + HOUR] = hour;
            facts[reading * FACTS + PARTY] = party;
            facts[reading * FACTS + DAY] = day;
        }

        int factOf(int reading, int what) {
            return facts[reading * FACTS + what];
        }

        int tallyOf(int angle, int what) {
            return what == MEAN ? mean[angle] : tally[angle * TALLIES + what];
        }

        boolean isSeen(int reading) {
            return factOf(reading, WHOLE) != NOT_THERE;
        }

        boolean isKept(int reading) {
            return factOf(reading, IS_KEPT) == 1;
        }

        /** Whether it was struck by hand as told up to that day: the latest told by then counts. */
        boolean isStruck(int reading, int day) {
            int strike = lastStrike[reading];
            for (int i = 0; i < CALLS && strike != NONE; i++) {
                if (strikeDay[strike] <= day) {
                    return strikeIs[strike];
                }
                strike = strikeAhead[strike];
            }
            return false;
        }

        boolean addStrike(int reading, int day, boolean is) {
            if (strikes >= CALLS) {
                return false;
            }
            strikeDay[strikes] = day;
            strikeIs[strikes] = is;
            strikeAhead[strikes] = lastStrike[reading];
            lastStrike[reading] = strikes;
            strikes++;
            forget(factOf(reading, ANGLE));
            return true;
        }

        void forget(int angle) {
            stale[angle] = true;
            someStale = true;
        }

        void forgetAll() {
            for (int a = 0; a < angles; a++) {
                forget(a);
            }
        }

        void freshen(int angle) {
            if (stale[angle]) {
                recount(angle, LAST_DAY);
            }
        }

        void freshenAll() {
            if (!someStale) {
                return;
            }
            for (int a = 0; a < angles; a++) {
                if (stale[a]) {
                    recount(a, LAST_DAY);
                }
            }
            someStale = false;
        }

        /** Judges and counts the readings of an angle as known on a day. */
        void recount(int angle, int day) {
            int seen = sortSeen(angle, day);
            int middle = seen == 0 ? NOT_THERE : order[(seen - 1) / 2];
            rules.clearFacts();
            rules.facts[Rules.COUNT] = seen;
            rules.facts[Rules.AT] = at[angle];
            int kept = 0;
            int sum = 0;
            int least = FULL;
            int most = NONE;
            for (int i = 0; i < tally[angle * TALLIES + FILLED]; i++) {
                int reading = rows[angle * TURNS + i];
                if (judge(reading, middle, day)) {
                    int whole = factOf(reading, WHOLE);
                    kept++;
                    sum += whole;
                    least = Math.min(least, whole);
                    most = Math.max(most, whole);
                }
            }
            boolean some = kept > 0;
            mean[angle] = some ? sum / kept : NOT_THERE;
            tally[angle * TALLIES + SPREAD] = some ? most - least : NOT_THERE;
            tally[angle * TALLIES + LEAST] = some ? least : NOT_THERE;
            tally[angle * TALLIES + MOST] = some ? most : NOT_THERE;
            tally[angle * TALLIES + KEPT] = kept;
            tally[angle * TALLIES + SEEN] = seen;
            tally[angle * TALLIES + MIDDLE] = middle;
            tally[angle * TALLIES + SUM] = sum;
            stale[angle] = false;
        }

        private int sortSeen(int angle, int day) {
            int seen = 0;
            for (int i = 0; i < tally[angle * TALLIES + FILLED]; i++) {
                int reading = rows[angle * TURNS + i];
                if (!isSeen(reading) || factOf(reading, DAY) > day) {
                    continue;
                }
                int whole = factOf(reading, WHOLE);
                int j = seen;
                while (j > 0 && order[j - 1] > whole) {
                    order[j] = order[j - 1];
                    j--;
                }
                order[j] = whole;
                seen++;
            }
            return seen;
        }

        private boolean judge(int reading, int middle, int day) {
            int row = reading * FACTS;
            boolean counts = isSeen(reading) && facts[row + DAY] <= day;
            boolean byHand = isStruck(reading, day);
            int off = counts ? Math.abs(facts[row + WHOLE] - middle) : NOT_THERE;
            int striker = NOT_THERE;
            if (counts) {
                rules.facts[Rules.OFF] = off;
                rules.facts[Rules.HOUR] = facts[row + HOUR];
                rules.facts[Rules.PARTY] = facts[row + PARTY];
                striker = rules.striker(facts[row + DAY]);
            }
            boolean isKept = counts && !byHand && striker == NOT_THERE;
            facts[row + HAND] = byHand ? 1 : 0;
            facts[row + STRIKER] = striker;
            facts[row + IS_KEPT] = isKept ? 1 : 0;
            facts[row + OFF] = off;
            return isKept;
        }

        int keptAt(int angle, int i) {
            int left = i;
            for (int j = 0; j < tally[angle * TALLIES + FILLED]; j++) {
                int reading = rows[angle * TURNS + j];
                if (isKept(reading)) {
                    if (left == 0) {
                        return reading;
                    }
                    left--;
                }
            }
            return NONE;
        }

        private void layOut(int angle) {
            rules.clearFacts();
            rules.facts[Rules.COUNT] = tally[angle * TALLIES + SEEN];
            rules.facts[Rules.SPREAD] = Math.max(0, tally[angle * TALLIES + SPREAD]);
            rules.facts[Rules.KEPT] = tally[angle * TALLIES + KEPT];
            rules.facts[Rules.AT] = at[angle];
        }

        int weightOf(int angle, int day) {
            layOut(angle);
            return rules.weight(day);
        }

        boolean isAgain(int angle, int day) {
            layOut(angle);
            return tally[angle * TALLIES + KEPT] == 0 || rules.sendsAgain(day);
        }

        int againOnes(int day) {
            int ones = 0;
            for (int a = 0; a < angles; a++) {
                if (isAgain(a, day)) {
                    ones++;
                }
            }
            return ones;
        }
    }

    /** What was measured along the ground: bases of bars, and arcs. */
    private static final class Lengths {
        private static final int JOINED = 1;
        private static final int TORN = 2;

        final int[] bars = new int[BASES];
        int bases;
        int growth = 11;
        int arcs;
        private final int[] side = new int[BASES];
        private final int[] layer = new int[BASES];
        private final int[] barLength = new int[BASES * BARS];
        private final int[] barHeat = new int[BASES * BARS];
        private final int[] barRise = new int[BASES * BARS];
        private final int[] arcDegree = new int[ARCS];
        private final int[] arcLength = new int[ARCS];

        boolean isBase(int base) {
            return base >= 0 && base < bases;
        }

        int sideAt(int base) {
            return side[base];
        }

        boolean mayLay(int one, int other, int party) {
            int laid = 0;
            for (int b = 0; b < bases; b++) {
                if (side[b] == sideOf(one, other)) {
                    if (layer[b] == party) {
                        return false;
                    }
                    laid++;
                }
            }
            return laid < 2;
        }

        int addBase(int one, int other, int party) {
            side[bases] = sideOf(one, other);
            layer[bases] = party;
            bases++;
            return bases - 1;
        }

        int addBar(int base, int length, int heat, int rise) {
            int b = base * BARS + bars[base];
            barLength[b] = length;
            barHeat[b] = heat;
            barRise[b] = rise;
            bars[base]++;
            return bars[base];
        }

        int lengthOf(int base) {
            int sum = 0;
            for (int b = base * BARS; b < base * BARS + bars[base]; b++) {
                int length = barLength[b];
                if (length > 0) {
                    sum += length + length * growth * (barHeat[b] - 15) / 100000 - barRise[b] * barRise[b] / (2 * length);
                }
            }
            return sum;
        }

        private int twinOf(int base) {
            for (int b = 0; b < bases; b++) {
                if (b != base && side[b] == side[base]) {
                    return b;
                }
            }
            return NONE;
        }

        private boolean areTorn(int one, int other) {
            return Math.abs(lengthOf(one) - lengthOf(other)) > bars[one] + bars[other];
        }

        int laidAgain(int base) {
            int twin = twinOf(base);
            if (twin == NONE) {
                return 0;
            }
            return areTorn(base, twin) ? TORN : JOINED;
        }

        int leastOf(int base) {
            int own = lengthOf(base) - bars[base];
            int twin = twinOf(base);
            if (twin == NONE) {
                return own;
            }
            int its = lengthOf(twin) - bars[twin];
            return areTorn(base, twin) ? Math.min(own, its) : Math.max(own, its);
        }

        int mostOf(int base) {
            int own = lengthOf(base) + bars[base];
            int twin = twinOf(base);
            if (twin == NONE) {
                return own;
            }
            int its = lengthOf(twin) + bars[twin];
            return areTorn(base, twin) ? Math.max(own, its) : Math.min(own, its);
        }

        int addArc(int degree, int length) {
            arcDegree[arcs] = degree;
            arcLength[arcs] = length;
            arcs++;
            return arcs - 1;
        }

        /** The line's slope, or what it is at degree 0, from the sums of the least squares. */
        long fit(boolean atZero) {
            long x = 0;
            long y = 0;
            long xx = 0;
            long xy = 0;
            for (int a = 0; a < arcs; a++) {
                x += arcDegree[a];
                y += arcLength[a];
                xx += arcDegree[a] * arcDegree[a];
                xy += (long) arcDegree[a] * arcLength[a];
            }
            long divisor = arcs * xx - x * x;
            if (divisor <= 0) {
                return NO_LONG;
            }
            return Math.floorDiv(1000 * (atZero ? xx * y - x * xy : arcs * xy - x * y), divisor);
        }
    }

    /** Triangles and rounds, and their misses by a row of means. */
    private static final class Net {
        int triangles;
        int rounds;
        private final Book book;
        private final int[] corners = new int[TRIANGLES * 3];
        private final int[] excess = new int[TRIANGLES];
        private final int[] turns = new int[ROUNDS * LINKS];
        private final int[] turnsOf = new int[ROUNDS];
        private int lastWide;

        Net(Book theirBook) {
            book = theirBook;
        }

        boolean isTriangle(int triangle) {
            return triangle >= 0 && triangle < triangles;
        }

        boolean isTriangular(int a, int b, int c) {
            return looksAt(a, book.at[b], book.at[c])
                && looksAt(b, book.at[c], book.at[a])
                && looksAt(c, book.at[a], book.at[b]);
        }

        private boolean looksAt(int angle, int one, int other) {
            return book.from[angle] == one && book.to[angle] == other
                || book.from[angle] == other && book.to[angle] == one;
        }

        int addTriangle(int a, int b, int c, int itsExcess) {
            corners[triangles * 3] = a;
            corners[triangles * 3 + 1] = b;
            corners[triangles * 3 + 2] = c;
            excess[triangles] = itsExcess;
            triangles++;
            return triangles - 1;
        }

        boolean goesRound(int[] row, int size) {
            if (size < 2) {
                return false;
            }
            int ahead = row[size - 1];
            for (int i = 0; i < size; i++) {
                if (book.at[row[i]] != book.at[ahead] || book.from[row[i]] != book.to[ahead] || isAhead(row, i)) {
                    return false;
                }
                ahead = row[i];
            }
            return true;
        }

        int addRound(int[] row, int size) {
            System.arraycopy(row, 0, turns, rounds * LINKS, size);
            turnsOf[rounds] = size;
            rounds++;
            return rounds - 1;
        }

        int cornerOf(int triangle, int i) {
            return corners[triangle * 3 + i];
        }

        /** The side that lies opposite a triangle's i-th angle. */
        int opposite(int triangle, int i) {
            int angle = cornerOf(triangle, i);
            return sideOf(book.from[angle], book.to[angle]);
        }

        int turnOf(int round, int i) {
            return turns[round * LINKS + i];
        }

        int turnsIn(int round) {
            return turnsOf[round];
        }

        int triangleMiss(int triangle, int[] means) {
            return sumLess(corners, triangle * 3, 3, means, HALF + excess[triangle]);
        }

        int roundMiss(int round, int[] means) {
            return sumLess(turns, round * LINKS, turnsOf[round], means, FULL);
        }

        private static int sumLess(int[] angles, int first, int size, int[] means, int due) {
            int sum = 0;
            for (int i = first; i < first + size; i++) {
                if (means[angles[i]] < 0) {
                    return NO_INT;
                }
                sum += means[angles[i]];
            }
            return sum - due;
        }

        private int missOf(int condition, int[] means) {
            return condition < triangles ? triangleMiss(condition, means) : roundMiss(condition - triangles, means);
        }

        static boolean isBeyond(int miss, int allowed) {
            return miss != NO_INT && Math.abs(miss) > allowed;
        }

        boolean isWell(int triangle, int leastAngle) {
            for (int i = 0; i < 3; i++) {
                int mean = book.mean[cornerOf(triangle, i)];
                if (mean < 0 || mean < leastAngle) {
                    return false;
                }
            }
            return true;
        }

        int wideOnes(int allowed) {
            int wide = 0;
            for (int c = 0; c < triangles + rounds; c++) {
                if (isBeyond(missOf(c, book.mean), allowed)) {
                    wide++;
                }
            }
            return wide;
        }

        /** Begins at the one that was wide the last time: among like rows of means it mostly is again. */
        boolean isAllWithin(int[] means, int allowed) {
            int all = triangles + rounds;
            int c = lastWide < all ? lastWide : 0;
            for (int i = 0; i < all; i++) {
                if (isBeyond(missOf(c, means), allowed)) {
                    lastWide = c;
                    return false;
                }
                c = c + 1 < all ? c + 1 : 0;
            }
            return true;
        }
    }

    /**
     * The least change of angles. With shares (2,520 by weight, so that they are whole) the change of an
     * angle is its share times the sum of the factors of its conditions; these factors solve a system as
     * small as there are conditions, told as whole numerators over one determinant.
     */
    private static final class Adjuster {
        private static final int SCALE = 2520;
        private static final int WIDE = CONDITIONS + 1;
        private static final long PARTS_BELOW = 1000000000L;
        /** More steps than numbers of this size can need until no rest is left. */
        private static final int EUCLID = 1000;

        long leastSum = NO_LONG;
        private final Book book;
        private final Net net;
        private final int[] member = new int[ANGLES];
        private final int[] share = new int[ANGLES];
        private final int[] keptMember = new int[ANGLES];
        private final int[] keptShare = new int[ANGLES];
        private final int[] misses = new int[CONDITIONS];
        private int conditions;
        private final Big[] matrix = new Big[CONDITIONS * WIDE];
        private final Big[] factor = new Big[CONDITIONS];
        /** What the factors are numerators over. */
        private final Big whole = new Big();
        private final Big divisor = new Big();
        private final Big one = new Big();
        private final Big two = new Big();
        private final Big three = new Big();
        private final Big spare = new Big();
        private final Big rest = new Big();
        private final Big scaled = new Big();

        Adjuster(Book theirBook, Net theirNet) {
            book = theirBook;
            net = theirNet;
            for (int i = 0; i < CONDITIONS * WIDE; i++) {
                matrix[i] = new Big();
            }
            for (int i = 0; i < CONDITIONS; i++) {
                factor[i] = new Big();
            }
        }

        /** False if a condition has no miss. */
        boolean gather(int triangles, int rounds) {
            Arrays.fill(member, 0);
            conditions = 0;
            for (int t = 0; t < net.triangles; t++) {
                if ((triangles >>> t & 1) != 0) {
                    for (int i = 0; i < 3; i++) {
                        member[net.cornerOf(t, i)] |= 1 << conditions;
                    }
                    if (!take(net.triangleMiss(t, book.mean))) {
                        return false;
                    }
                }
            }
            for (int r = 0; r < net.rounds; r++) {
                if ((rounds >>> r & 1) != 0) {
                    for (int i = 0; i < net.turnsIn(r); i++) {
                        member[net.turnOf(r, i)] |= 1 << conditions;
                    }
                    if (!take(net.roundMiss(r, book.mean))) {
                        return false;
                    }
                }
            }
            return true;
        }

        private boolean take(int miss) {
            if (miss == NO_INT || conditions >= CONDITIONS) {
                return false;
            }
            misses[conditions] = miss;
            conditions++;
            return true;
        }

        void weigh(int day) {
            for (int a = 0; a < book.angles; a++) {
                int weight = member[a] == 0 ? 1 : book.weightOf(a, day);
                share[a] = weight > 0 ? SCALE / weight : SCALE;
            }
        }

        /** Whole-number elimination: each division by the pivot ahead leaves no rest. False if they hang. */
        boolean solve() {
            fillMatrix();
            divisor.setLong(1);
            for (int k = 0; k < conditions; k++) {
                Big pivot = matrix[k * WIDE + k];
                if (pivot.size == 0) {
                    return false;
                }
                for (int i = 0; i < conditions; i++) {
                    if (i != k) {
                        eliminate(i, k, pivot);
                    }
                }
                divisor.copyFrom(pivot);
            }
            return true;
        }

        private void fillMatrix() {
            for (int i = 0; i < conditions; i++) {
                for (int j = 0; j < conditions; j++) {
                    int both = 1 << i | 1 << j;
                    long sum = 0;
                    for (int a = 0; a < book.angles; a++) {
                        if ((member[a] & both) == both) {
                            sum += share[a];
                        }
                    }
                    matrix[i * WIDE + j].setLong(sum);
                }
                matrix[i * WIDE + CONDITIONS].setLong(-misses[i]);
            }
        }

        private void eliminate(int i, int k, Big pivot) {
            three.copyFrom(matrix[i * WIDE + k]);
            for (int j = 0; j < WIDE; j++) {
                if (j < conditions || j == CONDITIONS) {
                    Big entry = matrix[i * WIDE + j];
                    one.setProduct(pivot, entry);
                    two.setProduct(three, matrix[k * WIDE + j]);
                    one.addSigned(two, true);
                    entry.setQuotient(one, divisor, rest, scaled);
                }
            }
        }

        /** Keeps what was solved, and tells how many angles are in it. */
        int keep() {
            int angles = 0;
            for (int a = 0; a < ANGLES; a++) {
                keptMember[a] = member[a];
                keptShare[a] = share[a];
                if (member[a] != 0) {
                    angles++;
                }
            }
            one.setLong(0);
            for (int i = 0; i < conditions; i++) {
                factor[i].copyFrom(matrix[i * WIDE + CONDITIONS]);
                two.setLong(-misses[i]);
                three.setProduct(two, factor[i]);
                one.addSigned(three, false);
            }
            two.setLong(1000L * SCALE);
            three.setProduct(one, two);
            one.setFloor(three, divisor, rest, scaled);
            leastSum = one.isLong() ? one.toLong() : NO_LONG;
            whole.copyFrom(divisor);
            return angles;
        }

        /** Lays the numerator of an angle's change into the one; false if the angle isn't in it. */
        private boolean layChange(int angle) {
            if (keptMember[angle] == 0) {
                return false;
            }
            two.setLong(0);
            for (int i = 0; i < CONDITIONS; i++) {
                if ((keptMember[angle] >>> i & 1) != 0) {
                    two.addSigned(factor[i], false);
                }
            }
            three.setLong(keptShare[angle]);
            one.setProduct(two, three);
            return true;
        }

        int thousandths(int angle) {
            if (!layChange(angle)) {
                return NO_INT;
            }
            two.setLong(1000);
            three.setProduct(one, two);
            one.setFloor(three, whole, rest, scaled);
            long told = one.isLong() ? one.toLong() : NO_LONG;
            return told == (int) told ? (int) told : NO_INT;
        }

        int lowestTerm(int angle, boolean below) {
            if (!layChange(angle)) {
                return NO_INT;
            }
            two.copyFrom(one);
            two.dropSign();
            three.copyFrom(whole);
            for (int i = 0; i < EUCLID && three.size > 0; i++) {
                spare.setQuotient(two, three, rest, scaled);
                two.copyFrom(three);
                three.copyFrom(rest);
            }
            three.setQuotient(one, two, rest, scaled);
            spare.setQuotient(whole, two, rest, scaled);
            if (!isShort(three) || !isShort(spare)) {
                return NO_INT;
            }
            return (int) (below ? spare.toLong() : three.toLong());
        }

        private static boolean isShort(Big number) {
            return number.isLong() && Math.abs(number.toLong()) < PARTS_BELOW;
        }
    }

    /** A whole number in limbs of 30 bits, the lowest first; far more of them than any adjusting needs. */
    private static final class Big {
        private static final int LIMBS = 10;
        private static final int BITS = 30;
        private static final long MASK = (1L << BITS) - 1;

        int size;
        private boolean negative;
        private final long[] limb = new long[LIMBS];

        void setLong(long number) {
            negative = number < 0;
            long left = Math.abs(number);
            size = 0;
            while (left > 0 && size < LIMBS) {
                limb[size] = left & MASK;
                left >>>= BITS;
                size++;
            }
        }

        void copyFrom(Big other) {
            size = other.size;
            negative = other.negative;
            System.arraycopy(other.limb, 0, limb, 0, size);
        }

        void dropSign() {
            negative = false;
        }

        boolean isLong() {
            return size < 3 || size == 3 && limb[2] < 8;
        }

        long toLong() {
            long number = 0;
            for (int i = size - 1; i >= 0; i--) {
                number = number << BITS | limb[i];
            }
            return negative ? -number : number;
        }

        /** Neither factor may be this number itself. */
        void setProduct(Big a, Big b) {
            Arrays.fill(limb, 0);
            for (int i = 0; i < a.size; i++) {
                long carry = 0;
                for (int j = 0; j < b.size && i + j < LIMBS; j++) {
                    long sum = limb[i + j] + a.limb[i] * b.limb[j] + carry;
                    limb[i + j] = sum & MASK;
                    carry = sum >> BITS;
                }
                if (i + b.size < LIMBS) {
                    limb[i + b.size] = carry;
                }
            }
            settle(a.size + b.size, a.negative != b.negative);
        }

        void addSigned(Big other, boolean less) {
            boolean itsNegative = other.negative != less;
            if (negative == itsNegative) {
                addSize(other);
            } else if (compareSize(other) >= 0) {
                setDifference(this, other, negative);
            } else {
                setDifference(other, this, itsNegative);
            }
        }

        private void addSize(Big other) {
            long carry = 0;
            int longer = Math.max(size, other.size);
            for (int i = 0; i < longer; i++) {
                long sum = (i < size ? limb[i] : 0) + (i < other.size ? other.limb[i] : 0) + carry;
                limb[i] = sum & MASK;
                carry = sum >> BITS;
            }
            if (longer < LIMBS) {
                limb[longer] = carry;
            }
            settle(longer + 1, negative);
        }

        private void setDifference(Big more, Big less, boolean isNegative) {
            long carry = 0;
            int longer = more.size;
            for (int i = 0; i < longer; i++) {
                long sum = more.limb[i] - (i < less.size ? less.limb[i] : 0) + carry;
                limb[i] = sum & MASK;
                carry = sum >> BITS;
            }
            settle(longer, isNegative);
        }

        /** Toward 0; the rest has the sign of what is divided. Nothing comes of a division by 0. */
        void setQuotient(Big a, Big b, Big rest, Big scaled) {
            rest.copyFrom(a);
            int places = a.size - b.size;
            if (b.size == 0 || places < 0) {
                settle(0, false);
                return;
            }
            // a leading limb of at least half the base keeps each guess of a limb within two of it
            int shift = Long.numberOfLeadingZeros(b.limb[b.size - 1]) - (64 - BITS);
            rest.shiftUp(shift);
            scaled.copyFrom(b);
            scaled.shiftUp(shift);
            for (int i = places; i >= 0; i--) {
                limb[i] = rest.takeOut(scaled, b.size, i);
            }
            settle(places + 1, a.negative != b.negative);
            rest.shiftDown(b.size, shift);
        }

        void setFloor(Big a, Big b, Big rest, Big scaled) {
            setQuotient(a, b, rest, scaled);
            if (rest.size > 0 && a.negative != b.negative) {
                scaled.setLong(1);
                addSigned(scaled, true);
            }
        }

        /** Takes the divisor, moved up by so many places, out as often as it goes; tells how often. */
        private long takeOut(Big divisor, int n, int place) {
            long lead = divisor.limb[n - 1];
            if (lead == 0 || place + n >= LIMBS) {
                return 0;
            }
            long guess = Math.min(MASK, (limb[place + n] << BITS | limb[place + n - 1]) / lead);
            long top = limb[place + n] + addTimes(divisor, n, place, -guess);
            for (int i = 0; i < 2 && top < 0; i++) {
                guess--;
                top += addTimes(divisor, n, place, 1);
            }
            limb[place + n] = top;
            return guess;
        }

        private long addTimes(Big other, int n, int place, long times) {
            long carry = 0;
            for (int i = 0; i < n; i++) {
                long sum = limb[place + i] + times * other.limb[i] + carry;
                limb[place + i] = sum & MASK;
                carry = sum >> BITS;
            }
            return carry;
        }

        /** What runs over stands in the limb behind the last. */
        private void shiftUp(int shift) {
            long carry = 0;
            for (int i = 0; i < size; i++) {
                long moved = limb[i] << shift | carry;
                limb[i] = moved & MASK;
                carry = moved >> BITS;
            }
            if (size < LIMBS) {
                limb[size] = carry;
            }
        }

        private void shiftDown(int n, int shift) {
            for (int i = 0; i < n; i++) {
                long above = i + 1 < n ? limb[i + 1] : 0;
                limb[i] = (above << BITS | limb[i]) >> shift & MASK;
            }
            settle(n, negative);
        }

        private int compareSize(Big other) {
            if (size != other.size) {
                return size - other.size;
            }
            for (int i = size - 1; i >= 0; i--) {
                if (limb[i] != other.limb[i]) {
                    return limb[i] < other.limb[i] ? -1 : 1;
                }
            }
            return 0;
        }

        private void settle(int limbs, boolean isNegative) {
            size = Math.min(limbs, LIMBS);
            while (size > 0 && limb[size - 1] == 0) {
                size--;
            }
            negative = isNegative && size > 0;
        }
    }

    /** Sides carried from a base over triangles: the best chain, and whether a told one stands. */
    private static final class Chains {
        private static final int WELL = 8;
        private static final int SHARPEST = 36000;
        private static final int BLUNTEST = 6444000;
        private static final long LONGEST = 1000000000L;
        private static final int QUARTER = 324000;
        private static final long MILLION = 1000000L;

        final int[] told = new int[LINKS];
        int toldLength;
        int toldLeast = NONE;
        int toldMost = NONE;
        private final Book book;
        private final Net net;
        private final Lengths lengths;
        private final int[] able = new int[WELL];
        private int ables;
        /** Three of each triangle that is able to carry: the i-th side lies opposite the i-th angle. */
        private final int[] sides = new int[WELL * 3];
        private final int[] sineLeast = new int[WELL * 3];
        private final int[] sineMost = new int[WELL * 3];
        private long shrink;
        /** The triangles first, then, from LINKS on, the sides that they carry to. */
        private final int[] path = new int[LINKS * 2];
        private final int[] best = new int[LINKS * 2];
        private int bestLength;
        private long bestLeast;
        private long bestMost;
        private int target;
        private final int[] reached = new int[3];

        Chains(Book theirBook, Net theirNet, Lengths theirLengths) {
            book = theirBook;
            net = theirNet;
            lengths = theirLengths;
        }

        /** Finds the best chain and keeps it; tells why it is refused, 0 if it isn't. */
        int seek(int base, int side, int leastAngle) {
            if (!gatherWell(leastAngle)) {
                return TOO_MANY;
            }
            measureShrink();
            target = side;
            bestLength = NONE;
            extend(0, 0, lengths.sideAt(base), lengths.leastOf(base), lengths.mostOf(base));
            if (bestLength == NONE) {
                return NOT_SO;
            }
            System.arraycopy(best, 0, told, 0, LINKS);
            toldLength = bestLength;
            toldLeast = (int) bestLeast;
            toldMost = (int) bestMost;
            return 0;
        }

        int apartFrom(int base) {
            return Math.max(0, Math.max(lengths.leastOf(base) - toldMost, toldLeast - lengths.mostOf(base)));
        }

        private boolean gatherWell(int leastAngle) {
            int well = 0;
            ables = 0;
            for (int t = 0; t < net.triangles; t++) {
                if (net.isWell(t, leastAngle)) {
                    if (well >= WELL) {
                        return false;
                    }
                    well++;
                    if (isAble(t)) {
                        takeUp(t);
                    }
                }
            }
            return true;
        }

        private boolean isAble(int triangle) {
            for (int i = 0; i < 3; i++) {
                int angle = net.cornerOf(triangle, i);
                int least = book.tallyOf(angle, Book.LEAST);
                if (least < SHARPEST || book.tallyOf(angle, Book.MOST) > BLUNTEST) {
                    return false;
                }
            }
            return true;
        }

        private void takeUp(int triangle) {
            for (int i = 0; i < 3; i++) {
                int angle = net.cornerOf(triangle, i);
                int first = book.tallyOf(angle, Book.LEAST) / 10;
                int last = book.tallyOf(angle, Book.MOST) / 10;
                int one = sineOf(first);
                int other = sineOf(last);
                boolean overTop = first <= QUARTER && QUARTER <= last;
                sides[ables * 3 + i] = net.opposite(triangle, i);
                sineLeast[ables * 3 + i] = Math.min(one, other);
                sineMost[ables * 3 + i] = overTop ? sineOf(QUARTER) : Math.max(one, other);
            }
            able[ables] = triangle;
            ables++;
        }

        /** The least, in millionths, that one carrying can leave of a span. */
        private void measureShrink() {
            shrink = MILLION;
            for (int w = 0; w < ables * 3; w += 3) {
                long least = Math.min(sineLeast[w], Math.min(sineLeast[w + 1], sineLeast[w + 2]));
                long most = Math.max(sineMost[w], Math.max(sineMost[w + 1], sineMost[w + 2]));
                if (most > 0) {
                    shrink = Math.min(shrink, least * MILLION / most);
                }
            }
        }

        private void extend(int depth, int used, int side, long least, long most) {
            if (side == target && isBetter(depth, most - least)) {
                System.arraycopy(path, 0, best, 0, LINKS * 2);
                bestLength = depth;
                bestLeast = least;
                bestMost = most;
            }
            if (depth >= LINKS || isHopeless(depth, most - least)) {
                return;
            }
            for (int w = 0; w < ables; w++) {
                int old = (used >>> w & 1) != 0 ? NONE : placeOf(side, w);
                for (int turn = 1; turn <= 2 && old != NONE; turn++) {
                    int fresh = w * 3 + (old + turn) % 3;
                    long less = carriedLeast(least, fresh, w * 3 + old);
                    long more = carriedMost(most, fresh, w * 3 + old);
                    if (more <= LONGEST && (depth + 1 < LINKS || sides[fresh] == target)) {
                        path[depth] = able[w];
                        path[LINKS + depth] = sides[fresh];
                        extend(depth + 1, used | 1 << w, sides[fresh], less, more);
                    }
                }
            }
        }

        private int placeOf(int side, int w) {
            for (int i = 0; i < 3; i++) {
                if (sides[w * 3 + i] == side) {
                    return i;
                }
            }
            return NONE;
        }

        private long carriedLeast(long least, int fresh, int old) {
            return sineMost[old] > 0 ? least * sineLeast[fresh] / sineMost[old] : 0;
        }

        private long carriedMost(long most, int fresh, int old) {
            return sineLeast[old] > 0 ? (most * sineMost[fresh] + sineLeast[old] - 1) / sineLeast[old] : LONGEST + 1;
        }

        private boolean isBetter(int length, long span) {
            if (bestLength == NONE || span != bestMost - bestLeast) {
                return bestLength == NONE || span < bestMost - bestLeast;
            }
            if (length != bestLength) {
                return length < bestLength;
            }
            int order = compareRows(0, length);
            return order < 0 || order == 0 && compareRows(LINKS, length) < 0;
        }

        private int compareRows(int first, int length) {
            for (int i = first; i < first + length; i++) {
                if (path[i] != best[i]) {
                    return path[i] - best[i];
                }
            }
            return 0;
        }

        /** Whether no chain that goes on from here can be better, however much each carrying shrinks the span. */
        private boolean isHopeless(int depth, long span) {
            if (bestLength == NONE) {
                return false;
            }
            long left = span;
            for (int i = depth; i < LINKS; i++) {
                left = left * shrink / MILLION;
            }
            long toBeat = bestMost - bestLeast;
            return left > toBeat || left == toBeat && depth >= bestLength;
        }

        /** 0 if a told chain stands; else 1 and the place of the first triangle that is in the way. */
        int firstBad(int from, int to, int[] row, int size, int allowed, int leastAngle) {
            int ways = 1;
            reached[0] = from;
            for (int i = 0; i < size; i++) {
                boolean sound = net.isWell(row[i], leastAngle)
                    && !Net.isBeyond(net.triangleMiss(row[i], book.mean), allowed)
                    && isAble(row[i])
                    && !isAhead(row, i);
                ways = sound ? goOver(row[i], ways) : 0;
                if (ways == 0 || i == size - 1 && !isReached(to, ways)) {
                    return 1 + i;
                }
            }
            return 0;
        }

        /** From the sides reached so far to those of the triangle that they are carried to: how many. */
        private int goOver(int triangle, int ways) {
            int met = 0;
            int meeting = NONE;
            for (int i = 0; i < 3; i++) {
                if (isReached(net.opposite(triangle, i), ways)) {
                    met++;
                    meeting = i;
                }
            }
            if (met == 0) {
                return 0;
            }
            int now = 0;
            for (int i = 0; i < 3; i++) {
                // a side that alone is met is carried to the others, not to itself
                if (met > 1 || i != meeting) {
                    reached[now] = net.opposite(triangle, i);
                    now++;
                }
            }
            return now;
        }

        private boolean isReached(int side, int ways) {
            for (int i = 0; i < ways; i++) {
                if (reached[i] == side) {
                    return true;
                }
            }
            return false;
        }
    }

    /** Suspects among the readings, and the fewest whose striking lets every miss be allowed. */
    private static final class Blunders {
        /** Sets of up to 12 suspects. */
        private static final int SETS = 4096;

        final int[] guilt = new int[SUSPECTS];
        int suspects;
        int guilts;
        int sets;
        private final Book book;
        private final Net net;
        private final int[] suspected = new int[SUSPECTS];
        private final int[] live = new int[SUSPECTS];
        private int lives;
        private final int[] pick = new int[SUSPECTS];
        private final int[] first = new int[SUSPECTS];
        private final int[] sum = new int[ANGLES];
        private final int[] kept = new int[ANGLES];
        private final int[] tried = new int[ANGLES];

        Blunders(Book theirBook, Net theirNet) {
            book = theirBook;
            net = theirNet;
        }

        boolean isSuspect(int reading) {
            for (int i = 0; i < suspects; i++) {
                if (suspected[i] == reading) {
                    return true;
                }
            }
            return false;
        }

        int addSuspect(int reading) {
            suspected[suspects] = reading;
            suspects++;
            return suspects;
        }

        int fewest(int allowed) {
            gatherLive();
            System.arraycopy(book.mean, 0, tried, 0, ANGLES);
            for (int size = 0; size <= lives; size++) {
                int good = countSets(size, allowed);
                if (good > 0) {
                    System.arraycopy(first, 0, guilt, 0, SUSPECTS);
                    guilts = size;
                    sets = good;
                    return size;
                }
            }
            return NOT_THERE;
        }

        /** In the order of their numbers, so that sets are met in that order too. */
        private void gatherLive() {
            lives = 0;
            for (int i = 0; i < suspects; i++) {
                if (book.isKept(suspected[i])) {
                    int j = lives;
                    while (j > 0 && live[j - 1] > suspected[i]) {
                        live[j] = live[j - 1];
                        j--;
                    }
                    live[j] = suspected[i];
                    lives++;
                }
            }
        }

        private int countSets(int size, int allowed) {
            for (int i = 0; i < size; i++) {
                pick[i] = i;
            }
            int good = 0;
            boolean more = true;
            for (int i = 0; i < SETS && more; i++) {
                if (strikesOut(size) && net.isAllWithin(tried, allowed)) {
                    if (good == 0) {
                        keepFirst(size);
                    }
                    good++;
                }
                more = pickNext(size);
            }
            return good;
        }

        private void keepFirst(int size) {
            for (int i = 0; i < size; i++) {
                first[i] = live[pick[i]];
            }
        }

        private boolean pickNext(int size) {
            for (int i = size - 1; i >= 0; i--) {
                if (pick[i] < lives - size + i) {
                    pick[i]++;
                    for (int j = i + 1; j < size; j++) {
                        pick[j] = pick[j - 1] + 1;
                    }
                    return true;
                }
            }
            return false;
        }

        /** Tries the means without the picked ones; false if an angle would lose its last. */
        private boolean strikesOut(int size) {
            for (int i = 0; i < lives; i++) {
                int angle = book.factOf(live[i], Book.ANGLE);
                sum[angle] = book.tallyOf(angle, Book.SUM);
                kept[angle] = book.tallyOf(angle, Book.KEPT);
            }
            for (int i = 0; i < size; i++) {
                int angle = book.factOf(live[pick[i]], Book.ANGLE);
                sum[angle] -= book.factOf(live[pick[i]], Book.WHOLE);
                kept[angle]--;
            }
            for (int i = 0; i < lives; i++) {
                int angle = book.factOf(live[i], Book.ANGLE);
                if (kept[angle] <= 0) {
                    return false;
                }
                tried[angle] = sum[angle] / kept[angle];
            }
            return true;
        }
    }

    /** What was sighted from mark to mark: stars, the north that angles carry on from them, and levels. */
    private static final class Sights {
        int stars;
        int levels;
        private final Book book;
        private final int[] starAt = new int[STARS];
        private final int[] starTo = new int[STARS];
        private final int[] starTicks = new int[STARS];
        private final int[] steps = new int[MARKS * MARKS];
        private final int[] north = new int[MARKS * MARKS];
        /** Among sights of as many steps, the one with the lesser rank has the better row of angles. */
        private final int[] rank = new int[MARKS * MARKS];
        private final int[] key = new int[MARKS * MARKS];
        private final int[] layer = new int[ANGLES * 2];
        private int inLayer;
        private final int[] levelFrom = new int[LEVELS];
        private final int[] levelTo = new int[LEVELS];
        private final int[] levelUp = new int[LEVELS];

        Sights(Book theirBook) {
            book = theirBook;
        }

        private static int sight(int at, int to) {
            return at * MARKS + to;
        }

        int addStar(int at, int to, int ticks) {
            starAt[stars] = at;
            starTo[stars] = to;
            starTicks[stars] = ticks;
            stars++;
            return stars - 1;
        }

        int northOf(int at, int to) {
            return steps[sight(at, to)] < 0 ? NOT_THERE : north[sight(at, to)];
        }

        int stepsOf(int at, int to) {
            return steps[sight(at, to)];
        }

        /** Carries the north on from the stars, step by step, until the sight is met or none is met any more. */
        void carryNorth(int at, int to) {
            Arrays.fill(steps, NOT_THERE);
            takeStars();
            boolean more = true;
            for (int step = 1; step <= ANGLES && more && steps[sight(at, to)] < 0; step++) {
                inLayer = 0;
                for (int a = 0; a < book.angles; a++) {
                    if (book.mean[a] >= 0) {
                        int one = sight(book.at[a], book.from[a]);
                        int other = sight(book.at[a], book.to[a]);
                        carry(one, other, a, step, book.mean[a]);
                        carry(other, one, a, step, -book.mean[a]);
                    }
                }
                rankLayer();
                more = inLayer > 0;
            }
        }

        private void takeStars() {
            for (int s = 0; s < stars; s++) {
                int here = sight(starAt[s], starTo[s]);
                steps[here] = 0;
                north[here] = meanOfStars(starAt[s], starTo[s]);
                rank[here] = starAt[s];
            }
            for (int s = 0; s < stars; s++) {
                int back = sight(starTo[s], starAt[s]);
                if (steps[back] < 0) {
                    steps[back] = 0;
                    north[back] = (north[sight(starAt[s], starTo[s])] + HALF) % FULL;
                    rank[back] = starAt[s];
                }
            }
        }

        private int meanOfStars(int at, int to) {
            int sum = 0;
            int some = 0;
            for (int s = 0; s < stars; s++) {
                if (starAt[s] == at && starTo[s] == to) {
                    sum += starTicks[s];
                    some++;
                }
            }
            return some > 0 ? sum / some : NOT_THERE;
        }

        private void carry(int from, int to, int angle, int step, int turn) {
            if (steps[from] != step - 1 || steps[to] >= 0 && steps[to] < step) {
                return;
            }
            int itsKey = rank[from] * ANGLES + angle;
            int back = sight(to % MARKS, to / MARKS);
            if (steps[to] == step) {
                if (itsKey >= key[to]) {
                    return;
                }
            } else if (inLayer + 2 <= ANGLES * 2) {
                layer[inLayer] = to;
                layer[inLayer + 1] = back;
                inLayer += 2;
            }
            int ticks = Math.floorMod(north[from] + turn, FULL);
            steps[to] = step;
            steps[back] = step;
            north[to] = ticks;
            north[back] = (ticks + HALF) % FULL;
            key[to] = itsKey;
            key[back] = itsKey;
        }

        private void rankLayer() {
            for (int i = 0; i < inLayer; i++) {
                int better = 0;
                for (int j = 0; j < inLayer; j++) {
                    if (key[layer[j]] < key[layer[i]]) {
                        better++;
                    }
                }
                rank[layer[i]] = better;
            }
        }

        int addLevel(int from, int to, int up) {
            levelFrom[levels] = from;
            levelTo[levels] = to;
            levelUp[levels] = up;
            levels++;
            return levels - 1;
        }

        private int meanUp(int from, int to) {
            int sum = 0;
            int some = 0;
            for (int i = 0; i < levels; i++) {
                if (levelFrom[i] == from && levelTo[i] == to) {
                    sum += levelUp[i];
                    some++;
                }
            }
            return some > 0 ? Math.floorDiv(sum, some) : NO_INT;
        }

        int heightFrom(int one, int other) {
            int there = meanUp(one, other);
            int back = meanUp(other, one);
            if (back == NO_INT) {
                return there;
            }
            return there == NO_INT ? -back : (there - back) / 2;
        }

        int doubtOf(int one, int other) {
            int high = heightFrom(one, other);
            if (high == NO_INT) {
                return NONE;
            }
            boolean bothWays = meanUp(one, other) != NO_INT && meanUp(other, one) != NO_INT;
            return bothWays ? 0 : (Math.abs(high) + 99) / 100 + 10;
        }
    }
}
