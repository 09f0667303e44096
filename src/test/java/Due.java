import java.util.function.IntSupplier;

/** What the tests share: answers held against those that are due, and short ways to bring a field about. */
abstract class Due {
    static final int NONE = FillCells.NONE, BAD = FillCells.BAD, NO = FillCells.NO, FULL = FillCells.FULL;
    /** How many numbers a digest is made of. */
    private static final int DIGESTED = 10 + 3 + 5 * 80 + 2 + 3;
    private static final Document DOCUMENT = new Document();
    private static int wrong = 0;
    private static String part = "";

    static void fail(String why) {
        wrong++;
        System.out.println(part + ": " + why);
    }

    static void due(String what, long got, long want) {
        if (got != want) {
            fail(what + " answered " + got + ", due is " + want);
        }
    }

    /** The answers of one call after another, as they are due. */
    static void dueAll(String what, int[] got, int... want) {
        due(what + " (how many)", got.length, want.length);
        for (int i = 0; i < Math.min(got.length, want.length); i++) {
            due(what + " [" + i + "]", got[i], want[i]);
        }
    }

    static int[] got(int... answers) {
        return answers;
    }

    /** A call that is refused changes nothing but how often: the digest tells all but the text's bytes. */
    static void refuses(FillCells x, int why, String what, IntSupplier call) {
        long ahead = x.digest();
        due(what, call.getAsInt(), why);
        due(what + ", digest()", x.digest(), ahead + power(DIGESTED - 1 - (BAD - why)));
    }

    /** A call that is answered and leaves all as it is. */
    static void stays(FillCells x, int want, String what, IntSupplier call) {
        long ahead = x.digest();
        due(what, call.getAsInt(), want);
        due(what + ", digest()", x.digest(), ahead);
    }

    private static long power(int n) {
        long p = 1;
        for (int i = 0; i < n; i++) {
            p *= 31;
        }
        return p;
    }

    /** Numbers that a range does not have: next to its ends, and as far off as can be. */
    static int[] outside(int least, int most) {
        return new int[] {Integer.MIN_VALUE, least - 1, most + 1, Integer.MAX_VALUE};
    }

    static FillCells field(int... whatAndValue) {
        FillCells x = new FillCells();
        for (int i = 0; i < whatAndValue.length; i += 2) {
            x.rules(whatAndValue[i], whatAndValue[i + 1]);
        }
        return x;
    }

    static void fill(FillCells x, int cell, int times) {
        for (int i = 0; i < times; i++) {
            x.more(cell);
        }
    }

    static void twins(FillCells x, int group, int... cells) {
        for (int cell : cells) {
            x.sets(cell, 3, group);
        }
    }

    static void net(FillCells x, int net, int... cells) {
        for (int cell : cells) {
            x.sets(cell, 2, net);
        }
    }

    static int reads(FillCells x, String text) {
        x.clear();
        for (char c : text.toCharArray()) {
            x.type(c);
        }
        return x.reads();
    }

    /** All cells told by one sign. */
    static void everywhere(FillCells x, char sign) {
        StringBuilder text = new StringBuilder();
        for (int row = 0; row < 8; row++) {
            text.append(row).append(String.valueOf(sign).repeat(10)).append(';');
        }
        due("everywhere " + sign, reads(x, text.toString()), 8);
    }

    static int[] cellsOf(FillCells x) {
        int[] all = new int[400];
        for (int i = 0; i < 400; i++) {
            all[i] = x.of(i / 5, i % 5);
        }
        return all;
    }

    static void fillsOf(String what, FillCells x, int[] cells, int... want) {
        for (int i = 0; i < cells.length; i++) {
            due(what + ", fill of " + cells[i], x.of(cells[i], 4), want[i]);
        }
    }

    interface Part {
        void go();
    }

    static void go(String name, Part p) {
        part = name;
        p.go();
    }

    /** Runs tests that together must say every sentence between these two of the document. */
    static void goThrough(String begin, String end, Part... tests) {
        part = begin;
        if (!DOCUMENT.open(begin, end)) {
            fail("the document has no such part");
        }
        for (Part p : tests) {
            p.go();
        }
        part = begin;
        if (!DOCUMENT.unsaid().isEmpty()) {
            fail("no test for: " + DOCUMENT.unsaid());
        }
    }

    /** The sentence that the calls to come are a test of. */
    static void says(String sentence) {
        part = "'" + sentence + "'";
        if (!DOCUMENT.says(sentence)) {
            fail("the document does not say so");
        }
    }

    static void end(String name) {
        System.out.println(wrong == 0 ? name + ": all answers are as due" : name + ": " + wrong + " are not as due");
        if (wrong != 0) {
            System.exit(1);
        }
    }
}
