import java.util.Random;

/** Runs of calls by chance (the same ones each time) on FillCells and on PlainField: all answers must be alike. */
public final class ModelTest {
    private static final int RUNS = 150;
    private static int wrong = 0;

    private final int run;
    private final Random chance;
    private final FillCells x = new FillCells();
    private final PlainField plain = new PlainField();
    private final StringBuilder calls = new StringBuilder();

    private ModelTest(int run) {
        this.run = run;
        this.chance = new Random(run);
    }

    private boolean alike(String call, long got, long want) {
        calls.append(call).append(' ').append(got).append('\n');
        if (got != want) {
            wrong++;
            System.out.println("run " + run + ": " + call + " answered " + got + ", due is " + want);
            System.out.println("all calls of it:\n" + calls);
        }
        return got == want;
    }

    private int upTo(int most) {
        return chance.nextInt(most + 1);
    }

    /** Mostly a number in its range, now and then one just outside. */
    private int near(int least, int most) {
        return upTo(30) == 0 ? (upTo(1) == 0 ? least - 1 : most + 1) : least + upTo(most - least);
    }

    private boolean sets() {
        int cell = near(0, 79), what = near(0, 3);
        int v = near(0, what == 0 ? 9 : what == 1 ? 1 : 3);
        return alike("sets(" + cell + ", " + what + ", " + v + ")", x.sets(cell, what, v), plain.sets(cell, what, v));
    }

    private boolean rule(int what, int v) {
        return alike("rules(" + what + ", " + v + ")", x.rules(what, v), plain.rules(what, v));
    }

    /** Bounds that bite: near what a window of this size has by and by. */
    private boolean rules() {
        int what = near(0, 7);
        int area = plain.setting[0] * plain.setting[1];
        switch (what) {
            case 0: return rule(what, near(1, upTo(2) == 0 ? 8 : 3));
            case 1: return rule(what, near(1, upTo(2) == 0 ? 10 : 4));
            case 2: return rule(what, upTo(20) == 0 ? near(0, 720) : Math.min(720, area * upTo(8) + upTo(area)));
            case 3: return rule(what, upTo(3) == 0 ? near(0, 720) : Math.min(720, area * (4 + upTo(5)) + upTo(area)));
            case 7: return rule(what, near(0, 4));
            default: return rule(what, upTo(2) == 0 ? near(0, 99) : upTo(20));
        }
    }

    private boolean type(int c) {
        return alike("type(" + c + ")", x.type(c), plain.type(c));
    }

    private boolean text() {
        boolean ok = upTo(4) == 0 || alike("clear()", x.clear(), plain.clear());
        int rows = upTo(upTo(3) == 0 ? 10 : 3);
        for (int i = 0; i < rows; i++) {
            ok &= type('0' + (upTo(60) == 0 ? 8 : upTo(7)));
            int signs = upTo(50) == 0 ? upTo(11) : 1 + upTo(9);
            for (int j = 0; j < signs; j++) {
                ok &= upTo(9) > 0 || type(' ');
                ok &= type(upTo(200) == 0 ? near(0, 127) : "0123456789#..".charAt(upTo(12)));
            }
            ok &= upTo(60) == 0 || type(';');
        }
        return ok && alike("reads()", x.reads(), plain.reads());
    }

    private boolean steps() {
        int n = near(1, upTo(2) == 0 ? 60 : 8);
        return alike("steps(" + n + ")", x.steps(n), plain.steps(n));
    }

    private boolean best() {
        boolean ok = true;
        for (int what = 0; what <= 2 && ok; what++) {
            ok = alike("best(" + what + ")", x.best(what), plain.best(what));
        }
        return ok;
    }

    private boolean change() {
        int cell = near(0, 79);
        switch (upTo(16)) {
            case 0: case 1: case 2: case 3: return sets();
            case 4: case 5: return rules();
            case 6: case 7: return steps();
            case 8: case 9: return alike("more(" + cell + ")", x.more(cell), plain.more(cell));
            case 10: return alike("less(" + cell + ")", x.less(cell), plain.less(cell));
            case 11: return alike("undo()", x.undo(), plain.undo());
            case 12: return alike("thins()", x.thins(), plain.thins());
            case 13: return text();
            case 14: return upTo(3) > 0 || alike("empties()", x.empties(), plain.empties());
            case 15: return upTo(5) > 0 || best();
            default:
                int seed = upTo(1) == 0 ? near(0, 999999) : upTo(9), v = near(0, 9);
                return upTo(3) > 0 || alike("draw(" + seed + ", " + v + ")", x.draw(seed, v), plain.draw(seed, v));
        }
    }

    private boolean asked() {
        int cell = near(0, 79), part = near(0, 6), four = near(0, 3), k = upTo(9) == 0 ? near(0, 79) : near(0, 12);
        int two = near(0, 1), net = near(1, 3), r = near(0, 7), s = upTo(3) == 0 ? near(0, 90) : upTo(9 * plain.setting[1]);
        int ten = near(0, 9);
        return alike("of(" + cell + ", " + part + ")", x.of(cell, part), plain.of(cell, part))
            && alike("of(" + cell + ", 5)", x.of(cell, 5), plain.of(cell, 5))
            && alike("of(" + cell + ", 6)", x.of(cell, 6), plain.of(cell, 6))
            && alike("sum(" + cell + ")", x.sum(cell), plain.sum(cell))
            && alike("windows(" + four + ")", x.windows(four), plain.windows(four))
            && alike("worst(" + four + ")", x.worst(four), plain.worst(four))
            && alike("order(" + k + ", " + two + ")", x.order(k, two), plain.order(k, two))
            && alike("turn(" + k + ")", x.turn(k), plain.turn(k))
            && alike("burden(" + net + ")", x.burden(net), plain.burden(net))
            && alike("all(" + four + ")", x.all(four), plain.all(four))
            && alike("next()", x.next(), plain.next())
            && alike("row(" + r + ", " + s + ")", x.row(r, s), plain.row(r, s))
            && alike("told(" + ten + ")", x.told(ten), plain.told(ten))
            && alike("digest()", x.digest(), plain.digest());
    }

    /** A field with few twins and nets, so that the families may have more now and then. */
    private boolean begin() {
        boolean ok = alike("digest()", x.digest(), plain.digest());
        if (run % 3 > 0) {
            int v = upTo(6);
            ok &= alike("draw(" + run + ", " + v + ")", x.draw(run, v), plain.draw(run, v));
        }
        for (int i = upTo(12); i > 0; i--) {
            int cell = upTo(79), what = 2 + upTo(1), v = 1 + upTo(2);
            ok &= alike("sets(" + cell + ", " + what + ", " + v + ")", x.sets(cell, what, v), plain.sets(cell, what, v));
        }
        return ok && rule(2, upTo(40)) && rule(7, upTo(4)) && rule(3, 30 + upTo(40)) && rule(4 + upTo(2), upTo(9));
    }

    private void go() {
        boolean ok = begin();
        for (int i = 0; i < 60 && ok; i++) {
            ok = change() && (upTo(2) > 0 || asked());
        }
    }

    public static void main(String[] args) {
        int runs = args.length > 0 ? Integer.parseInt(args[0]) : RUNS;
        for (int run = 0; run < runs && wrong == 0; run++) {
            new ModelTest(run).go();
        }
        System.out.println(wrong == 0 ? "ModelTest: all answers are alike" : "ModelTest: an answer is wrong");
        if (wrong != 0) {
            System.exit(1);
        }
    }
}
