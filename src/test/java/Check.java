import java.util.NoSuchElementException;

/** What the tests share: counting answers that are not as due, and ways to tell texts and readings. */
final class Check {
    private static int asked = 0;
    private static int wrong = 0;
    private static int promise = 0;
    private static String sentence = null;
    private static int askedAhead = 0;

    private Check() { }

    /** The sentence of the document by which the answers behind it are due, word by word as it stands there. */
    static void says(int ofPromise, String words) {
        endSentence();
        promise = ofPromise;
        sentence = words;
        askedAhead = asked;
        if (Document.find(ofPromise, words) < 0) {
            wrong++;
            System.out.println("promise " + ofPromise + ": the document doesn't say '" + words + "'");
        }
    }

    private static void endSentence() {
        if (sentence != null && asked == askedAhead) {
            wrong++;
            System.out.println("promise " + promise + ": no answer is due by '" + sentence + "'");
        }
    }

    static void due(String what, long got, long want) {
        due(promise, what, got, want);
    }

    static void due(String what, boolean got, boolean want) {
        due(promise, what, got, want);
    }

    static void refused(GreatArc x, String what, long got, int trouble) {
        refused(promise, x, what, got, trouble);
    }

    static void refused(GreatArc x, String what, boolean got, int trouble) {
        refused(promise, x, what, got, trouble);
    }

    static void told(GreatArc x, String what, long got, long want) {
        told(promise, x, what, got, want);
    }

    static void told(GreatArc x, String what, boolean got) {
        told(promise, x, what, got);
    }

    static void due(int promise, String what, long got, long want) {
        asked++;
        if (got != want) {
            wrong++;
            System.out.println("promise " + promise + ": " + what + " answered " + got + ", due is " + want);
        }
    }

    static void due(int promise, String what, boolean got, boolean want) {
        due(promise, what, got ? 1 : 0, want ? 1 : 0);
    }

    /** A call that was refused, and by which trouble. */
    static void refused(int promise, GreatArc x, String what, long got, int trouble) {
        due(promise, what, got, -1);
        due(promise, "trouble behind " + what, x.trouble(), trouble);
    }

    static void refused(int promise, GreatArc x, String what, boolean got, int trouble) {
        due(promise, what, got, false);
        due(promise, "trouble behind " + what, x.trouble(), trouble);
    }

    /** A call that told an answer and left no trouble. */
    static void told(int promise, GreatArc x, String what, long got, long want) {
        due(promise, what, got, want);
        due(promise, "trouble behind " + what, x.trouble(), 0);
    }

    static void told(int promise, GreatArc x, String what, boolean got) {
        due(promise, what, got, true);
        due(promise, "trouble behind " + what, x.trouble(), 0);
    }

    static boolean throwsNoSuch(GreatArc x, int angle, int i) {
        try {
            x.led(angle, i);
            return false;
        } catch (NoSuchElementException e) {
            return true;
        }
    }

    static int bits(float value) {
        return Float.floatToRawIntBits(value);
    }

    static int read(GreatArc x, int angle, int value) {
        return x.read(angle, bits(value), 12, 0);
    }

    /** Feeds a text, with blanks up to whole twenties. */
    static void feed(GreatArc x, String text) {
        for (int i = 0; i < text.length(); i += 20) {
            int[] five = new int[5];
            for (int j = 0; j < 20; j++) {
                five[j / 4] = five[j / 4] << 8 | (i + j < text.length() ? text.charAt(i + j) : ' ');
            }
            x.feed(five[0], five[1], five[2], five[3], five[4]);
        }
    }

    static int rule(GreatArc x, String text, int from, int to) {
        feed(x, text);
        return x.rule(text.length(), from, to);
    }

    static int rule(GreatArc x, String text) {
        return rule(x, text, 0, 9999);
    }

    /** Marks on the first cells of the land's rows, so many, and three parties, the first a chief. */
    static GreatArc room(int marks) {
        GreatArc x = new GreatArc();
        for (int m = 0; m < marks; m++) {
            x.mark(m * 32);
        }
        x.party(true);
        x.party(false);
        x.party(true);
        return x;
    }

    static void end() {
        endSentence();
        System.out.println(asked + " answers, " + wrong + " not as due");
        if (wrong != 0) {
            System.exit(1);
        }
    }
}
