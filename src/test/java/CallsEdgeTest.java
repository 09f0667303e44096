import java.math.BigInteger;

/** The document's promises, sentence by sentence, with calls on both sides of each edge that a sentence names. */
public final class CallsEdgeTest extends Due {
    private static final int MAX = Integer.MAX_VALUE;

    private static void newObject() {
        says("As told.");
        FillCells x = new FillCells();
        dueAll("told", got(x.told(0), x.told(1), x.told(2), x.told(3), x.told(4), x.told(5), x.told(6), x.told(7), x.told(8),
            x.told(9)), 0, 0, 0, 0, 2, 3, 0, 720, 0, 0);
        dueAll("cells", cellsOf(x), new int[400]);
        FillCells y = new FillCells();
        dueAll("limits", got(y.rules(4, 5), y.rules(5, 5), y.rules(6, 5)), 99, 99, 99);
        y.sets(0, 0, 5);
        dueAll("objects share nothing", got(new FillCells().of(0, 0), new FillCells().rules(4, 1), x.all(1)), 0, 99, 0);
    }

    // ---- the field

    private static void sets() {
        says("SHAPES (what 0), SHUT (1; 1, 0), NET (2), TWINS (3) of a CELL become v: what it was.");
        int[] most = {9, 1, 3, 3};
        FillCells x = new FillCells();
        for (int what = 0; what <= 3; what++) {
            for (int cell : new int[] {0, 79}) {
                dueAll("sets(" + cell + ", " + what + ", ..)", got(x.sets(cell, what, most[what]), x.of(cell, what),
                    x.sets(cell, what, 0), x.of(cell, what), x.sets(cell, what, 0)), 0, most[what], most[what], 0, 0);
            }
        }
        says("(FILL that is too much goes as by THE TEXT;");
        FillCells y = new FillCells();
        twins(y, 1, 0, 79);
        fill(y, 79, 5);
        fill(y, 1, 5);
        dueAll("a sum of 9", got(y.sets(0, 0, 4), y.of(0, 4), y.of(79, 4)), 0, 5, 5);
        dueAll("a sum of 10", got(y.sets(0, 0, 5), y.of(0, 4), y.of(79, 4), y.of(1, 4)), 4, 4, 4, 5);
        dueAll("net", got(y.sets(0, 2, 1), y.of(0, 4), y.of(1, 4)), 0, 4, 5);
        dueAll("shut", got(y.sets(79, 1, 1), y.of(0, 4), y.of(79, 4), y.of(1, 4)), 0, 0, 0, 5);
        dueAll("9 shapes", got(y.sets(1, 0, 9), y.of(1, 4)), 0, 0);
        says("one that comes to TWINS: all of these have the least FILL of them then.)");
        FillCells z = new FillCells();
        fill(z, 1, 3);
        fill(z, 2, 5);
        fill(z, 3, 1);
        dueAll("the first", got(z.sets(2, 3, 2), z.of(2, 4)), 0, 5);
        dueAll("one with less", got(z.sets(1, 3, 2), z.of(1, 4), z.of(2, 4), z.of(3, 4)), 0, 3, 3, 1);
        dueAll("one with more", got(z.more(1), z.more(1), z.sets(3, 3, 1), z.sets(3, 3, 2), z.of(1, 4), z.of(3, 4)),
            4, 5, 0, 1, 1, 1);
        dueAll("one that leaves", got(z.sets(3, 3, 0), z.more(1), z.of(2, 4), z.of(3, 4)), 2, 2, 2, 1);
        z.sets(4, 1, 1);
        dueAll("a shut one", got(z.sets(4, 3, 2), z.of(1, 4), z.of(2, 4), z.all(0)), 0, 0, 0, 1);
    }

    private static void setsCounts() {
        says("C.");
        FillCells x = new FillCells();
        dueAll("also if it was so", got(x.sets(7, 0, 0), x.told(9), x.undo(), x.told(9)), 0, 1, 0, 0);
        says("BAD.");
        for (int v : outside(0, 3)) {
            refuses(x, BAD, "what " + v, () -> x.sets(0, v, 0));
        }
        int[] most = {9, 1, 3, 3};
        for (int what = 0; what <= 3; what++) {
            int part = what;
            for (int v : outside(0, most[what])) {
                refuses(x, BAD, "sets(0, " + part + ", " + v + ")", () -> x.sets(0, part, v));
            }
        }
        for (int cell : outside(0, 79)) {
            refuses(x, BAD, "cell " + cell, () -> x.sets(cell, 1, 1));
        }
    }

    private static void draw() {
        says("SHAPES are drawn up to v (0 .. 9), all FILL goes:");
        FillCells x = new FillCells();
        everywhere(x, '3');
        x.sets(4, 1, 1);
        net(x, 2, 5);
        twins(x, 3, 6, 79);
        fill(x, 79, 3);
        dueAll("up to 0", got(x.draw(1, 0), x.all(0), x.all(1), x.of(4, 1), x.of(5, 2), x.of(6, 3)), 0, 0, 0, 1, 2, 3);
        x.rules(0, 1);
        x.rules(1, 1);
        dueAll("up to 9", got(x.draw(1, 9), x.windows(3), x.worst(2), x.worst(3)), 374, 10, 0, 9);
        says("X is SEED (0 .. 999999) at first;");
        dueAll("ends", got(x.draw(0, 9), x.of(0, 0), x.draw(999999, 9), x.of(0, 0)), 340, 0, 398, 8);
        says("for each CELL X becomes X times 1103515245 and 12345, by 2147483648 what is left over:");
        dueAll("cells in order", got(x.of(1, 0), x.of(2, 0), x.of(3, 0), x.of(4, 0), x.of(79, 0)), 8, 3, 9, 2, 7);
        says("X by 65536 (cut), by v and 1 left over:");
        x.draw(1, 6);
        dueAll("by 7", got(x.of(0, 0), x.of(1, 0), x.of(2, 0), x.of(79, 0)), 16838 % 7, 5758 % 7, 10113 % 7, 13134 % 7);
        x.draw(1, 1);
        dueAll("by 2", got(x.of(0, 0), x.of(1, 0), x.of(2, 0), x.of(79, 0)), 0, 0, 1, 0);
        says("all together.");
        dueAll("together", got(x.draw(65535, 1), x.all(1), x.draw(65535, 9), x.all(1)), 44, 44, 380, 380);
        says("C.");
        FillCells y = new FillCells();
        dueAll("also if it was so", got(y.draw(0, 0), y.told(9), y.undo()), 0, 1, 0);
        y.sets(8, 0, 3);
        y.more(8);
        dueAll("undone", got(y.draw(7, 9) - y.all(1), y.undo(), y.of(8, 0), y.of(8, 4), y.all(1)), 0, 2, 3, 1, 3);
        says("BAD.");
        for (int v : outside(0, 999999)) {
            refuses(x, BAD, "seed " + v, () -> x.draw(v, 5));
        }
        for (int v : outside(0, 9)) {
            refuses(x, BAD, "up to " + v, () -> x.draw(5, v));
        }
    }

    private static void empties() {
        says("All FILL goes: how much there was.");
        FillCells x = new FillCells();
        due("none", x.empties(), 0);
        fill(x, 0, 9);
        twins(x, 1, 78, 79);
        fill(x, 79, 2);
        dueAll("some", got(x.empties(), x.all(0), x.all(2), x.empties()), 13, 0, 0, 0);
        FillCells y = field(0, 1, 1, 1, 2, 9);
        for (int i = 0; i < 12; i++) {
            due("steps", y.steps(60), 60);
        }
        dueAll("720", got(y.next(), y.empties(), y.windows(1)), NONE, 720, 80);
        says("C.");
        FillCells z = new FillCells();
        dueAll("also if there was none", got(z.empties(), z.told(9), z.undo()), 0, 1, 0);
        dueAll("undone", got(y.undo(), y.all(0), y.windows(1)), 7, 720, 0);
    }

    private static void rules() {
        says("H (what 0), W (1), LOW (2), HIGH (3), LIMIT of NET what less 3 (4 .. 6), THE RULE (7; 0 .. 4) become v:"
            + " what it was.");
        int[] first = {2, 3, 0, 720, 99, 99, 99, 0}, least = {1, 1, 0, 0, 0, 0, 0, 0}, most = {8, 10, 720, 720, 99, 99, 99, 4};
        FillCells x = new FillCells();
        for (int what = 0; what <= 7; what++) {
            dueAll("rules(" + what + ", ..)", got(x.rules(what, least[what]), x.rules(what, most[what]),
                x.rules(what, most[what]), x.rules(what, first[what])), first[what], least[what], most[what], most[what]);
        }
        due("not C", x.told(9), 0);
        FillCells y = field(4, 1, 5, 2, 6, 3);
        net(y, 1, 0);
        net(y, 2, 50);
        net(y, 3, 79);
        fill(y, 1, 9);
        fill(y, 51, 9);
        fill(y, 78, 9);
        dueAll("each net its own", got(y.burden(1), y.burden(2), y.burden(3)), 1, 2, 3);
        says("BAD.");
        for (int what = 0; what <= 7; what++) {
            int part = what;
            for (int v : outside(least[what], most[what])) {
                refuses(x, BAD, "rules(" + part + ", " + v + ")", () -> x.rules(part, v));
            }
        }
        for (int v : outside(0, 7)) {
            refuses(x, BAD, "what " + v, () -> x.rules(v, 1));
        }
    }

    private static void of() {
        says("Of a CELL: SHAPES (0), SHUT (1), NET (2), TWINS (3), FILL (4),");
        FillCells x = new FillCells();
        x.sets(79, 0, 4);
        net(x, 3, 79);
        twins(x, 2, 79);
        fill(x, 79, 5);
        dueAll("the last", got(x.of(79, 0), x.of(79, 1), x.of(79, 2), x.of(79, 3), x.of(79, 4)), 4, 0, 3, 2, 5);
        x.sets(79, 1, 1);
        dueAll("shut", got(x.of(79, 0), x.of(79, 1), x.of(79, 2), x.of(79, 3), x.of(79, 4)), 4, 1, 3, 2, 0);
        dueAll("the one ahead", got(x.of(78, 0), x.of(78, 1), x.of(78, 2), x.of(78, 3), x.of(78, 4)), 0, 0, 0, 0, 0);
        says("whether it MAY have 1 more (5),");
        dueAll("may", got(x.of(79, 5), x.of(78, 5)), 0, 1);
        says("how many THIN WINDOWS it is in (6).");
        FillCells y = new FillCells();
        due("none is thin", y.of(44, 6), 0);
        y.rules(2, 1);
        dueAll("at the corners and sides", got(y.of(0, 6), y.of(9, 6), y.of(70, 6), y.of(79, 6), y.of(5, 6), y.of(40, 6),
            y.of(44, 6)), 1, 1, 1, 1, 3, 2, 6);
        y.sets(44, 0, 1);
        dueAll("six are not", got(y.of(44, 6), y.of(43, 6), y.of(42, 6), y.of(41, 6), y.of(54, 6), y.of(64, 6)),
            0, 2, 4, 4, 3, 6);
        dueAll("after more, less, more", got(y.more(0), y.of(0, 6), y.of(1, 6), y.less(0), y.of(0, 6), y.of(1, 6), y.more(0),
            y.of(0, 6), y.of(1, 6)), 1, 0, 1, 0, 1, 2, 1, 0, 1);
        y.empties();
        y.rules(0, 8);
        y.rules(1, 10);
        due("one window", y.of(0, 6), 0);
        y.rules(2, 2);
        dueAll("one window, thin", got(y.of(0, 6), y.of(79, 6)), 1, 1);
        says("BAD.");
        for (int v : outside(0, 6)) {
            refuses(y, BAD, "what " + v, () -> y.of(0, v));
        }
        for (int v : outside(0, 79)) {
            for (int what = 0; what <= 6; what++) {
                int part = what;
                refuses(y, BAD, "of(" + v + ", " + part + ")", () -> y.of(v, part));
            }
        }
    }

    // ---- windows

    private static void sum() {
        says("SUM of the WINDOW at a CELL;");
        FillCells x = new FillCells();
        x.sets(0, 0, 2);
        fill(x, 12, 3);
        x.sets(79, 0, 7);
        dueAll("first and last", got(x.sum(0), x.sum(1), x.sum(67)), 5, 3, 7);
        says("NONE: none lies there.");
        dueAll("2 by 3", got(x.sum(7), x.sum(8), x.sum(9), x.sum(68), x.sum(70), x.sum(79)), 0, NONE, NONE, NONE, NONE, NONE);
        due("not counted", x.told(0), 0);
        says("BAD.");
        for (int v : outside(0, 79)) {
            refuses(x, BAD, "sum(" + v + ")", () -> x.sum(v));
        }
    }

    private static void windows() {
        says("How many WINDOWS (0), THIN (1), THICK ones (2), unlike SUMS of all (3).");
        FillCells x = field(0, 8, 1, 10);
        dueAll("one, empty", got(x.windows(0), x.windows(1), x.windows(2), x.windows(3)), 1, 0, 0, 1);
        x.rules(2, 1);
        dueAll("one, thin", got(x.windows(0), x.windows(1), x.windows(2), x.windows(3)), 1, 1, 0, 1);
        FillCells y = field(0, 1, 1, 1, 2, 5, 3, 7);
        reads(y, "0 0123456789;");
        dueAll("80", got(y.windows(0), y.windows(1), y.windows(2), y.windows(3)), 80, 75, 2, 10);
        FillCells z = field(0, 2, 1, 2);
        reads(z, "0 .1.2.4.8.9;");
        reads(z, "7 9.7.5.3.6.;");
        dueAll("more unlike ones", got(z.windows(0), z.windows(3)), 63, 10);
        says("BAD.");
        for (int v : outside(0, 3)) {
            refuses(x, BAD, "windows(" + v + ")", () -> x.windows(v));
        }
    }

    private static void worst() {
        says("The WINDOW (its CELL) of the least SUM (what 0), the greatest (1), of like ones the first;");
        FillCells x = new FillCells();
        dueAll("all like", got(x.worst(0), x.worst(1)), 0, 0);
        x.sets(0, 0, 1);
        dueAll("the first is greatest", got(x.worst(0), x.worst(1)), 1, 0);
        x.sets(79, 0, 2);
        dueAll("the last is greatest", got(x.worst(0), x.worst(1)), 1, 67);
        everywhere(x, '5');
        x.sets(79, 0, 4);
        dueAll("the last is least", got(x.worst(0), x.worst(1)), 67, 0);
        x.sets(0, 0, 4);
        dueAll("of like ones the first", got(x.worst(0), x.worst(1)), 0, 1);
        says("these SUMS (2, 3).");
        dueAll("sums", got(x.worst(2), x.worst(3)), 29, 30);
        x.rules(0, 8);
        x.rules(1, 10);
        dueAll("one window", got(x.worst(0), x.worst(1), x.worst(2), x.worst(3)), 0, 0, 398, 398);
        says("BAD.");
        for (int v : outside(0, 3)) {
            refuses(x, BAD, "worst(" + v + ")", () -> x.worst(v));
        }
    }

    private static void order() {
        says("Of the k-th of all unlike SUMS, rising: the SUM (what 0), how many WINDOWS have it (1).");
        FillCells x = field(0, 1, 1, 1);
        dueAll("all like", got(x.order(0, 0), x.order(0, 1)), 0, 80);
        reads(x, "0 9876543210;");
        for (int k = 0; k <= 9; k++) {
            dueAll("order(" + k + ", ..)", got(x.order(k, 0), x.order(k, 1)), k, k == 0 ? 71 : 1);
        }
        says("NONE: not so many.");
        for (int k : new int[] {10, 11, 79, 80, 81, MAX}) {
            stays(x, NONE, "order(" + k + ", 0)", () -> x.order(k, 0));
            stays(x, NONE, "order(" + k + ", 1)", () -> x.order(k, 1));
        }
        FillCells y = field(0, 8, 1, 10);
        dueAll("one window", got(y.order(0, 0), y.order(0, 1), y.order(1, 0), y.order(1, 1)), 0, 1, NONE, NONE);
        says("BAD: k below 0, too.");
        for (int v : outside(0, 1)) {
            refuses(x, BAD, "what " + v, () -> x.order(0, v));
            refuses(x, BAD, "what " + v + ", not so many", () -> x.order(80, v));
        }
        for (int k : new int[] {-1, Integer.MIN_VALUE}) {
            refuses(x, BAD, "order(" + k + ", 0)", () -> x.order(k, 0));
            refuses(x, BAD, "order(" + k + ", 1)", () -> x.order(k, 1));
        }
    }

    private static void turn() {
        says("The k-th WINDOW (its CELL) by SUMS rising, of like ones by CELLS;");
        FillCells x = new FillCells();
        dueAll("all like", got(x.turn(0), x.turn(7), x.turn(8), x.turn(55)), 0, 7, 10, 67);
        x.sets(0, 0, 5);
        x.sets(79, 0, 4);
        dueAll("the ends", got(x.turn(0), x.turn(53), x.turn(54), x.turn(55)), 1, 66, 67, 0);
        says("NONE: not so many.");
        for (int k : new int[] {56, 57, 80, MAX}) {
            stays(x, NONE, "turn(" + k + ")", () -> x.turn(k));
        }
        FillCells y = field(0, 8, 1, 10), z = field(0, 1, 1, 1);
        dueAll("one window, 80 windows", got(y.turn(0), y.turn(1), z.turn(79), z.turn(80)), 0, NONE, 79, NONE);
        says("BAD: k below 0.");
        refuses(x, BAD, "turn(-1)", () -> x.turn(-1));
        refuses(x, BAD, "turn(the least)", () -> x.turn(Integer.MIN_VALUE));
    }

    private static void burden() {
        says("BURDEN of a NET (1 .. 3).");
        FillCells x = new FillCells();
        net(x, 1, 0);
        net(x, 3, 79);
        fill(x, 1, 9);
        fill(x, 10, 9);
        fill(x, 69, 1);
        dueAll("each", got(x.burden(1), x.burden(2), x.burden(3)), 18, 0, 1);
        dueAll("after less", got(x.less(1), x.burden(1), x.less(69), x.burden(3)), 8, 17, 0, 0);
        x.undo();
        dueAll("after undo", got(x.burden(1), x.burden(3)), 17, 1);
        says("BAD.");
        for (int v : outside(1, 3)) {
            refuses(x, BAD, "burden(" + v + ")", () -> x.burden(v));
        }
    }

    private static void all() {
        says("All FILL (0), SHAPES (1), CELLS with FILL (2), SHUT ones (3).");
        FillCells x = new FillCells();
        dueAll("none", got(x.all(0), x.all(1), x.all(2), x.all(3)), 0, 0, 0, 0);
        fill(x, 0, 9);
        fill(x, 79, 1);
        dueAll("some", got(x.all(0), x.all(1), x.all(2), x.all(3)), 10, 0, 2, 0);
        everywhere(x, '9');
        dueAll("all shapes", got(x.all(0), x.all(1), x.all(2), x.all(3)), 0, 720, 0, 0);
        everywhere(x, '#');
        dueAll("all shut", got(x.all(0), x.all(1), x.all(2), x.all(3)), 0, 720, 0, 80);
        says("BAD.");
        for (int v : outside(0, 3)) {
            refuses(x, BAD, "all(" + v + ")", () -> x.all(v));
        }
    }

    // ---- filling

    private static void more() {
        says("FILL of a CELL and its FAMILY: 1 more: FILL of the CELL.");
        FillCells x = new FillCells();
        twins(x, 1, 0, 79);
        dueAll("twins", got(x.more(0), x.more(79), x.of(0, 4), x.of(79, 4), x.all(0)), 1, 2, 2, 2, 4);
        x.sets(5, 0, 8);
        dueAll("up to 9", got(x.more(5), x.sum(5)), 1, 9);
        says("C.");
        dueAll("told(9)", got(x.told(9), x.undo(), x.of(5, 4), x.undo(), x.all(0)), 6, 5, 0, 4, 4);
        says("BAD; NO: it MAY not.");
        FillCells y = field(3, 5, 4, 1);
        y.sets(0, 0, 9);
        y.sets(9, 1, 1);
        y.sets(79, 0, 5);
        net(y, 1, 40);
        fill(y, 41, 1);
        refuses(y, NO, "a sum of 9", () -> y.more(0));
        refuses(y, NO, "shut", () -> y.more(9));
        refuses(y, NO, "thick", () -> y.more(78));
        refuses(y, NO, "above the limit", () -> y.more(50));
        for (int v : outside(0, 79)) {
            refuses(y, BAD, "more(" + v + ")", () -> y.more(v));
        }
    }

    private static void less() {
        says("FILL of a CELL and its FAMILY: 1 less: FILL of the CELL.");
        FillCells x = new FillCells();
        twins(x, 1, 0, 79);
        fill(x, 0, 2);
        dueAll("twins", got(x.less(79), x.of(0, 4), x.less(0), x.of(79, 4), x.all(0)), 1, 1, 0, 0, 0);
        x.rules(3, 0);
        x.undo();
        x.rules(2, 720);
        dueAll("though windows are thin and thick", got(x.windows(1), x.windows(2), x.less(0)), 56, 2, 0);
        says("C.");
        dueAll("told(9)", got(x.told(9), x.undo(), x.all(0)), 6, 5, 2);
        says("BAD;");
        for (int v : outside(0, 79)) {
            refuses(x, BAD, "less(" + v + ")", () -> x.less(v));
        }
        says("NO: it has none.");
        x.less(0);
        refuses(x, NO, "twins without", () -> x.less(0));
        x.sets(30, 0, 9);
        refuses(x, NO, "shapes alone", () -> x.less(30));
    }

    private static void next() {
        says("The CELL that a STEP would fill;");
        for (int rule = 0; rule <= 4; rule++) {
            FillCells x = field(0, 1, 1, 1, 2, 1, 7, rule);
            everywhere(x, '1');
            x.sets(79, 0, 0);
            stays(x, 79, "the last, rule " + rule, x::next);
            x.sets(0, 0, 0);
            stays(x, 0, "the first, rule " + rule, x::next);
            dueAll("a step fills it", got(x.steps(1), x.of(0, 4), x.next(), x.steps(1), x.of(79, 4)), 1, 1, 79, 1, 1);
            stays(x, NONE, "filled, rule " + rule, x::next);
        }
        says("NONE.");
        stays(new FillCells(), NONE, "a new one", new FillCells()::next);
    }

    private static void steps() {
        says("STEPS, n (1 .. 60) at most, as long as there is one: how many.");
        FillCells x = field(0, 1, 1, 1, 2, 1);
        dueAll("n", got(x.steps(1), x.all(0), x.steps(60), x.all(0), x.steps(60), x.all(0), x.steps(1)), 1, 1, 60, 61, 19, 80, 0);
        FillCells y = field(2, 1, 3, 0);
        due("all would be thick", y.steps(60), 0);
        says("C, if any.");
        dueAll("told(9)", got(x.told(9), y.told(9), x.undo(), x.all(0), x.undo(), x.all(0), x.undo(), x.all(0)),
            3, 0, 2, 61, 1, 1, 0, 0);
        FillCells full = field(0, 1, 1, 1, 2, 1);
        for (int i = 0; i < 9; i++) {
            full.steps(1);
        }
        full.rules(2, 0);
        dueAll("none, with 8 to undo", got(full.steps(60), full.told(9), full.undo(), full.all(0)), 0, 8, 7, 8);
        says("BAD.");
        for (int v : outside(1, 60)) {
            refuses(x, BAD, "steps(" + v + ")", () -> x.steps(v));
        }
    }

    private static void thins() {
        says("THINNING: how much FILL goes.");
        FillCells x = new FillCells();
        due("none there", x.thins(), 0);
        fill(x, 3, 9);
        twins(x, 1, 40, 41, 42);
        fill(x, 40, 2);
        dueAll("all, each twin's too", got(x.thins(), x.all(0)), 15, 0);
        FillCells y = field(0, 8, 1, 10, 2, 5);
        fill(y, 79, 5);
        due("none is too much", y.thins(), 0);
        says("C, if any.");
        dueAll("told(9)", got(y.told(9), new FillCells().thins()), 5, 0);
        y.rules(2, 4);
        dueAll("one", got(y.thins(), y.told(9), y.undo(), y.of(79, 4)), 1, 6, 5, 5);
        FillCells z = new FillCells();
        for (int i = 0; i < 8; i++) {
            z.sets(i, 0, 1);
        }
        dueAll("none, with 8 to undo", got(z.thins(), z.told(9), z.undo(), z.all(1)), 0, 8, 7, 7);
    }

    private static void best() {
        says("The RULE by which STEPS (40 at most) and then THINNING leave the fewest THIN WINDOWS,");
        FillCells x = field(0, 1, 1, 1, 2, 1);
        everywhere(x, '1');
        reads(x, "0 0000000000;1 0000000000;2 0000000000;3 0000000000;");
        dueAll("40 do", got(x.best(0), x.best(1), x.best(2)), 0, 0, 40);
        x.sets(79, 0, 0);
        dueAll("41 would", got(x.best(0), x.best(1), x.best(2)), 0, 1, 40);
        FillCells y = field(0, 1, 1, 1, 2, 2);
        reads(y, "0 9999999999;2 9999999999;3 9999999999;");
        reads(y, "4 1111111111;5 1111111111;6 1111111111;7 1111111111;");
        net(y, 2, 20, 21, 22, 23, 24, 25, 26, 27, 28, 29);
        dueAll("the rule past a net leaves fewer", got(y.best(0), y.best(1), y.best(2)), 3, 10, 40);
        FillCells last = field(0, 3, 1, 4, 2, 2);
        last.sets(6, 0, 1);
        dueAll("the last rule (of the others only 2 leaves none thin, with 9)", got(last.best(0), last.best(1), last.best(2)), 4, 0, 8);
        FillCells thinned = field(0, 8, 1, 10, 2, 41);
        dueAll("too thin by one: all goes again", got(thinned.best(0), thinned.best(1), thinned.best(2)), 0, 1, 0);
        thinned.rules(2, 40);
        dueAll("just enough", got(thinned.best(0), thinned.best(1), thinned.best(2)), 0, 0, 40);
        fill(thinned, 0, 9);
        thinned.rules(2, 5);
        dueAll("none is thin: thinning alone", got(thinned.best(0), thinned.best(1), thinned.best(2)), 0, 0, 5);
    }

    private static void bestOfLikeOnes() {
        says("of like ones the least FILL,");
        FillCells x = field(0, 8, 1, 10, 2, 1);
        twins(x, 1, 0, 1);
        dueAll("each by two", got(x.best(0), x.best(1), x.best(2)), 0, 0, 2);
        net(x, 1, 11);
        dueAll("rule 3 by one", got(x.best(0), x.best(1), x.best(2)), 3, 0, 1);
        says("of like ones the least:");
        reads(x, "0 11;");
        x.rules(2, 3);
        dueAll("rules 1 and 3 by one", got(x.best(0), x.best(1), x.best(2)), 1, 0, 1);
        says("which (0), THIN WINDOWS (1), FILL (2) then.");
        dueAll("nothing to do", got(new FillCells().best(0), new FillCells().best(1), new FillCells().best(2)), 0, 0, 0);
        FillCells y = field(2, 1);
        everywhere(y, '#');
        dueAll("nothing can be done", got(y.best(0), y.best(1), y.best(2)), 0, 56, 0);
        says("All stays.");
        fill(x, 5, 3);
        x.rules(7, 4);
        int[] ahead = cellsOf(x);
        for (int what = 0; what <= 2; what++) {
            int part = what;
            int want = x.best(what);
            stays(x, want, "best(" + what + ")", () -> x.best(part));
        }
        dueAll("cells", cellsOf(x), ahead);
        dueAll("what follows from them", got(x.sum(0), x.of(5, 6), x.of(1, 5), x.next(), x.told(8)), 5, 0, 1, NONE, 4);
        says("BAD.");
        for (int v : outside(0, 2)) {
            refuses(x, BAD, "best(" + v + ")", () -> x.best(v));
        }
    }

    private static void row() {
        says("The least FILL by which in a row each stretch of W CELLS has a SUM of s (0 .. 90) or more");
        FillCells x = field(1, 10);
        dueAll("W 10", got(x.row(0, 0), x.row(0, 1), x.row(7, 89), x.row(7, 90)), 0, 1, 89, 90);
        x.rules(1, 1);
        dueAll("W 1", got(x.row(0, 0), x.row(0, 1), x.row(0, 9)), 0, 10, 90);
        x.rules(1, 3);
        reads(x, "2 ....9;3 9........9;");
        dueAll("W 3", got(x.row(2, 9), x.row(2, 10), x.row(3, 9), x.row(3, 27)), 18, 21, 18, 72);
        x.rules(1, 9);
        dueAll("W 9", got(x.row(0, 9), x.row(3, 9), x.row(3, 10), x.row(3, 81)), 9, 0, 1, 72);
        says("(FILL that is there goes;");
        fill(x, 5, 9);
        dueAll("in the row", got(x.row(0, 9), x.row(0, 81)), 9, 90);
        says("SHUT ones have none;");
        FillCells y = field(1, 10);
        y.sets(5, 1, 1);
        dueAll("9 at most for each other", got(y.row(0, 81), y.row(0, 82)), 81, NONE);
        y.sets(5, 0, 4);
        dueAll("its shapes count", got(y.row(0, 85), y.row(0, 86), y.row(0, 4), y.row(0, 5)), 81, NONE, 0, 1);
    }

    private static void rowsEdges() {
        says("SUMS up to 9;");
        FillCells x = field(1, 1);
        reads(x, "4 0589999999;");
        dueAll("W 1", got(x.row(4, 9), x.row(4, 10), x.row(4, 5)), 9 + 4 + 1, NONE, 5);
        FillCells fives = field(1, 2);
        reads(fives, "6 5555555555;");
        dueAll("W 2", got(fives.row(6, 10), fives.row(6, 14), fives.row(6, 15), fives.row(6, 18), fives.row(6, 19)),
            0, 20, 25, 40, NONE);
        says("all else is not asked);");
        twins(x, 1, 40, 79);
        x.sets(79, 1, 1);
        net(x, 1, 31);
        x.rules(3, 0);
        x.rules(4, 0);
        stays(x, 14, "HIGH, twins, limits", () -> x.row(4, 9));
        says("NONE: by none.");
        FillCells y = field(1, 2);
        dueAll("18", got(y.row(5, 18), y.row(5, 19), y.row(5, 90)), 90, NONE, NONE);
        y.sets(58, 1, 1);
        y.sets(59, 1, 1);
        stays(y, NONE, "the last stretch is shut", () -> y.row(5, 1));
        stays(y, 0, "nothing is asked", () -> y.row(5, 0));
        y.sets(59, 0, 3);
        dueAll("it has shapes", got(y.row(5, 3), y.row(5, 4)), 4 * 3, NONE);
        says("BAD.");
        for (int v : outside(0, 7)) {
            refuses(y, BAD, "row(" + v + ", 1)", () -> y.row(v, 1));
        }
        for (int v : outside(0, 90)) {
            refuses(y, BAD, "row(0, " + v + ")", () -> y.row(0, v));
        }
    }

    private static void undo() {
        says("The last C is undone: how many can be yet.");
        FillCells x = field(2, 1);
        x.sets(0, 0, 1);
        x.draw(1, 3);
        x.empties();
        x.more(0);
        x.less(0);
        x.rules(2, 720);
        x.steps(3);
        x.rules(2, 0);
        x.thins();
        reads(x, "0 5;");
        due("eight", x.told(9), 8);
        int[] fills = {0, 3, 0, 1, 0, 0, 0, 0};
        for (int i = 0; i < 8; i++) {
            dueAll("undo " + i, got(x.undo(), x.all(0)), 7 - i, fills[i]);
        }
        dueAll("as at first", cellsOf(x), new int[400]);
        says("NO: none can.");
        refuses(x, NO, "undo", x::undo);
        FillCells y = new FillCells();
        refuses(y, NO, "at first", y::undo);
        y.sets(80, 0, 0);
        y.rules(0, 1);
        y.type(48);
        y.reads();
        y.steps(1);
        y.thins();
        refuses(y, NO, "these are no C", y::undo);
    }

    // ---- texts

    private static void type() {
        says("A byte (0 .. 127) comes behind THE TEXT: how many it has.");
        FillCells x = new FillCells();
        dueAll("ends", got(x.type(0), x.type(127), x.told(3), x.clear()), 1, 2, 2, 2);
        dueAll("behind", got(x.type('1'), x.type('2'), x.type(';'), x.reads(), x.of(10, 0)), 1, 2, 3, 1, 2);
        dueAll("behind what was read", got(x.type('0'), x.reads(), x.type('4'), x.type(';'), x.reads(), x.of(0, 0)),
            4, -14, 5, 6, 2, 4);
        says("BAD;");
        for (int v : outside(0, 127)) {
            refuses(x, BAD, "type(" + v + ")", () -> x.type(v));
        }
        due("no byte came", x.reads(), 2);
        says("FULL: 120.");
        for (int i = 7; i <= 120; i++) {
            due("type", x.type(' '), i);
        }
        refuses(x, FULL, "the 121st", () -> x.type('8'));
        due("no byte came", x.reads(), 2);
        dueAll("room again", got(x.clear(), x.type('8')), 120, 1);
    }

    private static void clear() {
        says("THE TEXT is empty: how many it had.");
        FillCells x = new FillCells();
        dueAll("empty, one, empty", got(x.clear(), x.type('0'), x.clear(), x.told(3), x.clear(), x.reads()), 0, 1, 1, 0, 0, -10);
        for (int i = 0; i < 120; i++) {
            x.type('0');
        }
        dueAll("120", got(x.clear(), x.told(3), x.told(9)), 120, 0, 0);
    }

    private static void reads() {
        says("Rows become what THE TEXT tells: how many rows it tells.");
        FillCells x = new FillCells();
        dueAll("one", got(reads(x, "71;"), x.of(70, 0), x.told(3)), 1, 1, 3);
        dueAll("a row twice: the later one", got(reads(x, "711;7.23;"), x.of(70, 0), x.of(71, 0), x.of(72, 0)), 2, 1, 2, 3);
        due("as many as there is room for", reads(x, "7#;".repeat(40)), 40);
        says("C.");
        FillCells y = new FillCells();
        dueAll("also if it was so", got(reads(y, "0.;"), y.told(9), y.reads(), y.told(9), y.undo()), 1, 1, 1, 2, 1);
        says("-10 less the FAULT.");
        dueAll("faults", got(reads(y, ""), reads(y, "0"), reads(y, "0" + " ".repeat(119)), reads(y, "01;8")),
            -10, -11, -130, -13);
        dueAll("no C, none refused", got(y.told(9), y.told(0), y.told(1), y.told(2)), 1, 0, 0, 0);
    }

    private static void told() {
        says("How often refused: BAD (0), NO (1), FULL (2);");
        FillCells x = new FillCells();
        x.undo();
        for (int i = 0; i < 123; i++) {
            x.type(0);
        }
        dueAll("refused", got(x.told(0), x.told(1), x.told(2)), 0, 1, 3);
        says("bytes of THE TEXT (3), H (4), W (5), LOW (6), HIGH (7), THE RULE (8), what can be undone (9).");
        FillCells y = field(0, 8, 1, 10, 2, 720, 3, 0, 7, 4);
        y.type(5);
        y.empties();
        dueAll("each", got(y.told(3), y.told(4), y.told(5), y.told(6), y.told(7), y.told(8), y.told(9)), 1, 8, 10, 720, 0, 4, 1);
        says("BAD.");
        for (int v : outside(0, 9)) {
            refuses(y, BAD, "told(" + v + ")", () -> y.told(v));
        }
        due("they count", y.told(0), 4);
    }

    private static void digest() {
        says("h = 2081; then h = 31 h + v for each v:");
        int[] v = new int[418];
        v[4] = 2;
        v[5] = 3;
        v[7] = 720;
        v[10] = v[11] = v[12] = 99;
        FillCells x = new FillCells();
        due("a new one, wrapped around", x.digest(), digestOf(v));
        due("the same again", x.digest(), digestOf(v));
        says("told(0) to told(9); LIMITS; of CELLS of(0) to of(4); windows(1), windows(2); BURDENS.");
        int[] told = {1, 1, 1, 120, 1, 2, 3, 4, 0, 8};
        x.told(10);
        x.undo();
        for (int i = 0; i < 121; i++) {
            x.type(0);
        }
        for (int what = 0; what <= 3; what++) {
            x.rules(what, what + 1);
        }
        for (int net = 1; net <= 3; net++) {
            x.rules(3 + net, 10 * net);
            x.sets(2 * net, 2, net);
            fill(x, 2 * net + 1, net);
        }
        x.sets(0, 0, 9);
        x.sets(79, 1, 1);
        twins(x, 3, 78);
        System.arraycopy(told, 0, v, 0, 10);
        for (int net = 1; net <= 3; net++) {
            v[9 + net] = 10 * net;
            v[13 + 5 * 2 * net + 2] = net;
            v[13 + 5 * (2 * net + 1) + 4] = net;
        }
        v[13] = 9;
        v[13 + 5 * 79 + 1] = 1;
        v[13 + 5 * 78 + 3] = 3;
        // 1 by 2: at 0 9; at 2 and 3 1; at 4 and 5 2; at 6 and 7 3, the first that are not thin; all other 65 have 0
        v[413] = 72 - 3;
        v[414] = 1;
        v[415] = 1;
        v[416] = 1 + 2;
        v[417] = 2 + 3;
        dueAll("what it tells of", got(x.windows(0), x.windows(1), x.windows(2), x.burden(1), x.burden(2), x.burden(3)),
            72, v[413], v[414], v[415], v[416], v[417]);
        due("each number at its place", x.digest(), digestOf(v));
    }

    private static long digestOf(int[] v) {
        BigInteger h = BigInteger.valueOf(2081);
        for (int one : v) {
            h = h.multiply(BigInteger.valueOf(31)).add(BigInteger.valueOf(one));
        }
        return h.longValue();
    }

    public static void main(String[] args) {
        Part[][] promises = {
            {CallsEdgeTest::newObject}, {CallsEdgeTest::sets, CallsEdgeTest::setsCounts}, {CallsEdgeTest::draw},
            {CallsEdgeTest::empties}, {CallsEdgeTest::rules}, {CallsEdgeTest::of}, {CallsEdgeTest::sum},
            {CallsEdgeTest::windows}, {CallsEdgeTest::worst}, {CallsEdgeTest::order}, {CallsEdgeTest::turn},
            {CallsEdgeTest::burden}, {CallsEdgeTest::all}, {CallsEdgeTest::more}, {CallsEdgeTest::less},
            {CallsEdgeTest::next}, {CallsEdgeTest::steps}, {CallsEdgeTest::thins},
            {CallsEdgeTest::best, CallsEdgeTest::bestOfLikeOnes}, {CallsEdgeTest::row, CallsEdgeTest::rowsEdges},
            {CallsEdgeTest::undo}, {CallsEdgeTest::type}, {CallsEdgeTest::clear}, {CallsEdgeTest::reads},
            {CallsEdgeTest::told}, {CallsEdgeTest::digest}};
        String[] names = ("A new object,sets,draw,empties,rules,of,sum,windows,worst,order,turn,burden,all,more,less,next,"
            + "steps,thins,best,row,undo,type,clear,reads,told,digest").split(",");
        for (int i = 0; i < promises.length; i++) {
            goThrough("## Promise " + (i + 1) + ": " + names[i], "## ", promises[i]);
        }
        end("CallsEdgeTest");
    }
}
