/** The document's terms, sentence by sentence, with calls on both sides of each edge that a sentence names. */
public final class TermsEdgeTest extends Due {
    private static final int MIN = Integer.MIN_VALUE, MAX = Integer.MAX_VALUE;

    // ---- 1, the field

    private static void theField() {
        says("1 THE FIELD has 8 rows of 10 CELLS (CELL 10 r and c).");
        FillCells x = new FillCells();
        reads(x, "0 1........2;7 3........4;");
        dueAll("corners", got(x.of(0, 0), x.of(9, 0), x.of(70, 0), x.of(79, 0), x.all(1)), 1, 2, 3, 4, 10);
        for (int cell : outside(0, 79)) {
            refuses(x, BAD, "of(" + cell + ", 0)", () -> x.of(cell, 0));
            refuses(x, BAD, "sets(" + cell + ", 0, 1)", () -> x.sets(cell, 0, 1));
            refuses(x, BAD, "sum(" + cell + ")", () -> x.sum(cell));
            refuses(x, BAD, "more(" + cell + ")", () -> x.more(cell));
            refuses(x, BAD, "less(" + cell + ")", () -> x.less(cell));
        }
        for (int row : outside(0, 7)) {
            refuses(x, BAD, "row(" + row + ", 0)", () -> x.row(row, 0));
        }
    }

    private static void callsOfAnObject() {
        says("An object is used for at most 512 calls after it has been made; what later calls answer is free.");
        FillCells x = new FillCells();
        for (int i = 0; i < 255; i++) {
            dueAll("calls " + 2 * i, got(x.more(79), x.less(79)), 1, 0);
        }
        due("the call before the last", x.told(9), 8);
        due("the last call", x.digest(), new FillCells().digest() + 8 * power31(408));
    }

    /** told(9) stands ahead of 408 other numbers in the digest. */
    private static long power31(int n) {
        long p = 1;
        for (int i = 0; i < n; i++) {
            p *= 31;
        }
        return p;
    }

    private static void shapesOfACell() {
        says("Each has SHAPES (0 .. 9; 0 at first),");
        FillCells x = new FillCells();
        for (int cell = 0; cell < 80; cell++) {
            dueAll("cell " + cell, got(x.of(cell, 0), x.sets(cell, 0, 9), x.of(cell, 0), x.sets(cell, 0, 0)), 0, 0, 9, 9);
        }
        for (int v : outside(0, 9)) {
            refuses(x, BAD, "sets(79, 0, " + v + ")", () -> x.sets(79, 0, v));
        }
    }

    private static void shutOrNot() {
        says("is SHUT or not (not),");
        FillCells x = new FillCells();
        for (int cell = 0; cell < 80; cell++) {
            dueAll("cell " + cell, got(x.of(cell, 1), x.sets(cell, 1, 1), x.of(cell, 1), x.sets(cell, 1, 0)), 0, 0, 1, 1);
        }
        for (int v : outside(0, 1)) {
            refuses(x, BAD, "sets(0, 1, " + v + ")", () -> x.sets(0, 1, v));
        }
    }

    private static void netOfACell() {
        says("of a NET (0: none, 1 .. 3; 0),");
        FillCells x = new FillCells();
        for (int cell = 0; cell < 80; cell++) {
            dueAll("cell " + cell, got(x.of(cell, 2), x.sets(cell, 2, 3), x.of(cell, 2), x.sets(cell, 2, 0)), 0, 0, 3, 3);
        }
        for (int v : outside(0, 3)) {
            refuses(x, BAD, "sets(0, 2, " + v + ")", () -> x.sets(0, 2, v));
        }
        fill(x, 1, 2);
        dueAll("of none: no burden", got(x.burden(1), x.burden(2), x.burden(3)), 0, 0, 0);
    }

    private static void twinsOfACell() {
        says("of TWINS (0: none, 1 .. 3; 0),");
        FillCells x = new FillCells();
        for (int cell = 0; cell < 80; cell++) {
            dueAll("cell " + cell, got(x.of(cell, 3), x.sets(cell, 3, 3), x.of(cell, 3), x.sets(cell, 3, 0)), 0, 0, 3, 3);
        }
        for (int v : outside(0, 3)) {
            refuses(x, BAD, "sets(0, 3, " + v + ")", () -> x.sets(0, 3, v));
        }
        dueAll("of none: each by itself", got(x.more(5), x.all(0)), 1, 1);
    }

    private static void fillOfACell() {
        says("and has FILL (0 .. 9; 0).");
        FillCells x = new FillCells();
        for (int cell : new int[] {0, 9, 70, 79}) {
            due("at first", x.of(cell, 4), 0);
            refuses(x, NO, "less than none", () -> x.less(cell));
            for (int i = 1; i <= 9; i++) {
                due("more(" + cell + ")", x.more(cell), i);
            }
            refuses(x, NO, "more than 9", () -> x.more(cell));
            for (int i = 8; i >= 0; i--) {
                due("less(" + cell + ")", x.less(cell), i);
            }
            refuses(x, NO, "less than none again", () -> x.less(cell));
        }
    }

    // ---- windows

    private static void sumOfACell() {
        says("SUM of a CELL: SHAPES and FILL.");
        FillCells x = field(0, 1, 1, 1);
        x.sets(44, 0, 4);
        fill(x, 44, 5);
        dueAll("both", got(x.sum(44), x.of(44, 0), x.of(44, 4), x.of(44, 5), x.sum(43)), 9, 4, 5, 0, 0);
        x.less(44);
        dueAll("one less", got(x.sum(44), x.of(44, 5)), 8, 1);
        x.sets(44, 1, 1);
        due("a shut one has its shapes yet", x.sum(44), 4);
    }

    private static void windowsSize() {
        says("WINDOW: H rows (1 .. 8) by W columns (1 .. 10);");
        FillCells x = new FillCells();
        dueAll("ends", got(x.rules(0, 1), x.rules(0, 8), x.told(4), x.rules(1, 1), x.rules(1, 10), x.told(5)),
            2, 1, 8, 3, 1, 10);
        for (int v : outside(1, 8)) {
            refuses(x, BAD, "H " + v, () -> x.rules(0, v));
        }
        for (int v : outside(1, 10)) {
            refuses(x, BAD, "W " + v, () -> x.rules(1, v));
        }
        says("2 by 3 at first;");
        FillCells y = new FillCells();
        dueAll("H, W, windows", got(y.told(4), y.told(5), y.windows(0)), 2, 3, 7 * 8);
        y.sets(12, 0, 1);
        dueAll("its last cell", got(y.sum(0), y.sum(1), y.sum(2), y.sum(3), y.sum(10), y.sum(12), y.sum(20)),
            1, 1, 1, 0, 1, 1, 0);
    }

    private static void whereWindowsLie() {
        says("it lies at each CELL (its upper left one) from which it is all in THE FIELD.");
        for (int h = 1; h <= 8; h++) {
            for (int w = 1; w <= 10; w++) {
                FillCells x = field(0, h, 1, w);
                for (int cell = 0; cell < 80; cell++) {
                    boolean lies = cell / 10 + h <= 8 && cell % 10 + w <= 10;
                    due(h + " by " + w + " at " + cell, x.sum(cell), lies ? 0 : NONE);
                }
                due(h + " by " + w, x.windows(0), (9 - h) * (11 - w));
            }
        }
        FillCells x = field(0, 1, 1, 2);
        x.sets(10, 0, 5);
        dueAll("none goes on in the next row", got(x.sum(9), x.sum(8), x.sum(10), x.windows(3)), NONE, 0, 5, 2);
    }

    private static void sumOfAWindow() {
        says("Its SUM: of all its CELLS.");
        FillCells x = field(0, 3, 1, 2);
        everywhere(x, '1');
        for (int cell : new int[] {34, 35, 44, 45, 54, 55}) {
            x.sets(cell, 0, 2);
            x.more(cell);
        }
        dueAll("all of it, none beside it", got(x.sum(34), x.sum(33), x.sum(35), x.sum(24), x.sum(44), x.sum(36),
            x.sum(32), x.sum(4), x.sum(64)), 18, 12, 12, 14, 14, 6, 6, 6, NONE);
        x = field(0, 8, 1, 10);
        due("the least there can be", x.sum(0), 0);
        everywhere(x, '9');
        due("the most there can be", x.sum(0), 720);
    }

    private static void lowAndHigh() {
        says("LOW, HIGH (0 .. 720; 0 and 720 at first):");
        FillCells x = new FillCells();
        dueAll("at first", got(x.told(6), x.told(7)), 0, 720);
        dueAll("ends", got(x.rules(2, 720), x.rules(2, 0), x.rules(3, 0), x.rules(3, 720)), 0, 720, 720, 0);
        for (int v : outside(0, 720)) {
            refuses(x, BAD, "LOW " + v, () -> x.rules(2, v));
            refuses(x, BAD, "HIGH " + v, () -> x.rules(3, v));
        }
    }

    private static void thinAndThick() {
        says("it is THIN, if its SUM is below LOW, THICK, if it is above HIGH.");
        FillCells x = field(0, 8, 1, 10);
        dueAll("empty, LOW 0", got(x.windows(1), x.windows(2)), 0, 0);
        x.rules(2, 1);
        x.rules(3, 0);
        dueAll("empty, LOW 1, HIGH 0", got(x.windows(1), x.windows(2)), 1, 0);
        x.sets(0, 0, 1);
        dueAll("1, LOW 1, HIGH 0", got(x.windows(1), x.windows(2)), 0, 1);
        everywhere(x, '9');
        x.rules(2, 720);
        x.rules(3, 720);
        dueAll("full, LOW 720, HIGH 720", got(x.windows(1), x.windows(2)), 0, 0);
        x.rules(3, 719);
        dueAll("full, HIGH 719", got(x.windows(1), x.windows(2)), 0, 1);
        x.sets(0, 0, 8);
        dueAll("719, LOW 720, HIGH 719", got(x.windows(1), x.windows(2)), 1, 0);
        x.rules(3, 700);
        dueAll("both at once", got(x.windows(1), x.windows(2)), 1, 1);
    }

    // ---- nets

    private static void burdenOfANet() {
        says("BURDEN of a NET (1 .. 3): FILL of all CELLS that are not of it and lie beside one of it (over a side),");
        FillCells x = new FillCells();
        for (int cell = 0; cell < 80; cell++) {
            x.more(cell);
        }
        for (int cell = 0; cell < 80; cell++) {
            int r = cell / 10, c = cell % 10;
            int beside = (r > 0 ? 1 : 0) + (r < 7 ? 1 : 0) + (c > 0 ? 1 : 0) + (c < 9 ? 1 : 0);
            dueAll("beside " + cell, got(x.sets(cell, 2, 2), x.burden(2), x.sets(cell, 2, 0)), 0, beside, 2);
        }
        x = new FillCells();
        net(x, 1, 9, 40, 5);
        for (int cell : new int[] {10, 18, 20, 39, 31, 51, 49, 75, 16}) {
            fill(x, cell, 1);
        }
        due("not over a corner, not over the ends of a row or the field", x.burden(1), 0);
        fill(x, 9, 3);
        due("not of itself", x.burden(1), 0);
        net(x, 3, 8);
        fill(x, 8, 2);
        dueAll("of another net", got(x.burden(1), x.burden(3), x.burden(2)), 2, 3 + 1, 0);
    }

    private static void burdenEachOnce() {
        says("together, each CELL once.");
        FillCells x = new FillCells();
        net(x, 1, 1, 10, 12, 21);
        fill(x, 11, 4);
        due("four sides", x.burden(1), 4);
        fill(x, 0, 1);
        fill(x, 79, 9);
        due("together", x.burden(1), 5);
        net(x, 1, 11);
        due("it comes to the net", x.burden(1), 1);
        x = new FillCells();
        for (int cell = 0; cell < 80; cell++) {
            x.sets(cell, 2, 1);
            x.more(cell);
        }
        due("a net of all cells", x.burden(1), 0);
    }

    private static void limitOfANet() {
        says("LIMIT of a NET (0 .. 99; 99 at first).");
        FillCells x = new FillCells();
        dueAll("at first, ends", got(x.rules(4, 0), x.rules(5, 0), x.rules(6, 0), x.rules(4, 99), x.rules(5, 99),
            x.rules(6, 99)), 99, 99, 99, 0, 0, 0);
        for (int v : outside(0, 99)) {
            for (int what = 4; what <= 6; what++) {
                int net = what;
                refuses(x, BAD, "LIMIT " + v, () -> x.rules(net, v));
            }
        }
        net(x, 3, 10, 11, 12, 13, 14, 15, 16, 17, 18, 19);
        for (int i = 0; i < 99; i++) {
            due("more", x.more(i % 11 < 10 ? i % 11 : 20), i / 11 + 1);
        }
        dueAll("99", got(x.burden(3), x.of(21, 5), x.of(30, 5)), 99, 0, 1);
        refuses(x, NO, "the 100th", () -> x.more(21));
        FillCells y = field(5, 0);
        net(y, 2, 0);
        refuses(y, NO, "LIMIT 0", () -> y.more(1));
        dueAll("LIMIT 1", got(y.rules(5, 1), y.more(1), y.more(10), y.more(1)), 0, 1, NO, NO);
    }

    // ---- families

    private static void familyOfACell() {
        says("FAMILY of a CELL: itself; if it is of TWINS, all CELLS of these.");
        FillCells x = new FillCells();
        dueAll("of no twins", got(x.more(0), x.all(0), x.all(2)), 1, 1, 1);
        twins(x, 1, 79);
        dueAll("twins of one", got(x.more(79), x.all(0), x.less(79), x.all(0)), 1, 2, 0, 1);
        FillCells y = new FillCells();
        for (int cell = 0; cell < 80; cell++) {
            y.sets(cell, 3, 3);
        }
        dueAll("all cells are twins", got(y.more(40), y.all(0), y.all(2), y.less(0), y.all(0)), 1, 80, 80, 0, 0);
        FillCells z = new FillCells();
        twins(z, 1, 0, 3);
        twins(z, 2, 1, 4);
        twins(z, 3, 2, 5);
        z.more(4);
        fillsOf("twins 2 alone", z, new int[] {0, 1, 2, 3, 4, 5, 6}, 0, 1, 0, 0, 1, 0, 0);
        twins(z, 0, 4);
        z.more(4);
        fillsOf("one has left", z, new int[] {1, 4}, 1, 2);
    }

    private static void mayIfNoneIsShut() {
        says("A CELL MAY have 1 more, if none of its FAMILY is SHUT,");
        FillCells x = new FillCells();
        twins(x, 1, 0, 40, 79);
        due("none", x.of(40, 5), 1);
        for (int cell : new int[] {0, 40, 79}) {
            x.sets(cell, 1, 1);
            dueAll("shut is " + cell, got(x.of(0, 5), x.of(40, 5), x.of(79, 5), x.of(1, 5)), 0, 0, 0, 1);
            refuses(x, NO, "more(40)", () -> x.more(40));
            x.sets(cell, 1, 0);
            due("again none", x.of(40, 5), 1);
        }
    }

    private static void mayIfNoneHas9() {
        says("none has a SUM of 9,");
        FillCells x = new FillCells();
        twins(x, 1, 0, 40, 79);
        for (int cell : new int[] {0, 40, 79}) {
            x.sets(cell, 0, 9);
            dueAll("9 has " + cell, got(x.of(0, 5), x.of(40, 5), x.of(79, 5), x.of(1, 5)), 0, 0, 0, 1);
            x.sets(cell, 0, 8);
            dueAll("8 has " + cell, got(x.of(0, 5), x.of(40, 5), x.of(79, 5)), 1, 1, 1);
            x.sets(cell, 0, 0);
        }
        fill(x, 40, 9);
        dueAll("9 by fill", got(x.of(0, 5), x.of(40, 5), x.of(79, 4)), 0, 0, 9);
    }

    private static void mayIfNoneIsThick() {
        says("and with 1 more FILL for each of them no WINDOW is THICK that has one of them,");
        FillCells x = field(3, 5);
        reads(x, "0 4;");
        dueAll("4 and 1", got(x.of(12, 5), x.more(12)), 1, 1);
        dueAll("5 and 1", got(x.of(12, 5), x.of(0, 5), x.of(1, 5)), 0, 0, 0);
        dueAll("cells of other windows alone", got(x.of(3, 5), x.of(20, 5)), 1, 1);
        x.rules(3, 5);
        dueAll("less, more, less", got(x.less(12), x.of(0, 5), x.more(0), x.of(12, 5), x.less(0), x.of(12, 5)), 0, 1, 1, 0, 0, 1);
        FillCells y = field(3, 5);
        reads(y, "0 3;");
        twins(y, 2, 2, 11);
        dueAll("3 and 2", got(y.of(2, 5), y.of(11, 5)), 1, 1);
        y.sets(0, 0, 4);
        dueAll("4 and 2", got(y.of(2, 5), y.of(11, 5), y.of(1, 5)), 0, 0, 1);
        y.sets(0, 0, 0);
        twins(y, 2, 79);
        y.sets(69, 0, 4);
        due("the window of one far off, 4 and 1", y.of(2, 5), 1);
        y.sets(69, 0, 5);
        dueAll("the window of one far off, 5 and 1", got(y.of(2, 5), y.of(79, 5), y.of(0, 5)), 0, 0, 1);
        y.rules(3, 0);
        due("HIGH 0", y.of(40, 5), 0);
        y.rules(3, 3);
        due("a window that has it and is thick already", y.of(68, 5), 0);
    }

    private static void mayByBurdens() {
        says("no NET's BURDEN is above its LIMIT that is more by it.");
        FillCells x = field(4, 3);
        net(x, 1, 11);
        fill(x, 1, 2);
        dueAll("2 and 1", got(x.of(10, 5), x.more(10)), 1, 1);
        dueAll("3 and 1", got(x.of(1, 5), x.of(10, 5), x.of(12, 5), x.of(21, 5)), 0, 0, 0, 0);
        FillCells y = field(6, 3);
        net(y, 3, 11);
        twins(y, 1, 1, 10);
        fill(y, 12, 1);
        due("1 and 2", y.of(1, 5), 1);
        fill(y, 12, 1);
        dueAll("2 and 2", got(y.of(1, 5), y.of(10, 5), y.of(21, 5)), 0, 0, 1);
        net(y, 3, 10);
        due("one is of the net itself", y.of(1, 5), 1);
        net(y, 2, 13);
        y.rules(5, 2);
        dueAll("beside two nets", got(y.burden(2), y.of(12, 5), y.of(14, 5)), 2, 0, 0);
        y.rules(5, 3);
        due("both can bear it", y.of(12, 5), 1);
    }

    private static void mayThoughOthersAreTooFull() {
        says("(By WINDOWS that are THICK without them, BURDENS that are not more nothing is hindered.)");
        FillCells x = field(3, 1);
        reads(x, "0 9;");
        dueAll("a thick window elsewhere", got(x.windows(2), x.of(3, 5), x.of(20, 5), x.of(79, 5)), 1, 1, 1, 1);
        due("more(3)", x.more(3), 1);
        twins(x, 1, 40, 79);
        dueAll("of twins", got(x.of(40, 5), x.more(79), x.of(40, 5)), 1, 1, 0);
        twins(x, 1, 12);
        due("one of the twins in it", x.of(79, 5), 0);
        FillCells y = new FillCells();
        net(y, 1, 11);
        fill(y, 1, 2);
        y.rules(4, 0);
        dueAll("a burden above its limit", got(y.burden(1), y.of(11, 5), y.of(0, 5), y.of(31, 5), y.of(12, 5)), 2, 1, 1, 1, 0);
        twins(y, 1, 0, 31);
        due("more(31)", y.more(31), 1);
    }

    // ---- rules

    private static void rulesInAll() {
        says("RULES (0 at first): of all CELLS that MAY and of which the FAMILY has one in a THIN WINDOW, the one that"
            + " comes first:");
        due("at first", new FillCells().told(8), 0);
        for (int rule = 0; rule <= 4; rule++) {
            FillCells x = field(7, rule);
            stays(x, NONE, "no window is thin", x::next);
            x.rules(2, 1);
            x.rules(3, 0);
            stays(x, NONE, "all would be thick", x::next);
            x.rules(3, 720);
            everywhere(x, '#');
            stays(x, NONE, "all are shut", x::next);
            everywhere(x, '9');
            x.rules(2, 720);
            stays(x, NONE, "all have 9", x::next);
            x.sets(79, 0, 8);
            stays(x, 79, "the last one alone may", x::next);
        }
        for (int rule = 0; rule <= 4; rule++) {
            FillCells x = field(0, 1, 1, 1, 2, 1, 7, rule);
            everywhere(x, '1');
            x.sets(50, 0, 0);
            due("in a thin window", x.next(), 50);
            twins(x, 1, 30, 50, 70);
            due("of the family one in a thin window", x.next(), rule == 1 || rule == 2 ? 50 : 30);
            x.sets(70, 1, 1);
            due("the family may not", x.next(), NONE);
            x.sets(0, 0, 0);
            twins(x, 2, 0, 20);
            due("of the family the first one is in it", x.next(), 0);
        }
    }

    private static void rule0() {
        says("0 by CELLS.");
        FillCells x = field(0, 1, 1, 1, 2, 2);
        dueAll("all", got(x.next(), x.more(0), x.next(), x.more(0), x.next()), 0, 1, 0, 2, 1);
        everywhere(x, '2');
        due("none", x.next(), NONE);
        x.sets(79, 0, 1);
        due("the last", x.next(), 79);
        x.sets(78, 0, 0);
        due("the one ahead", x.next(), 78);
    }

    private static void rule1() {
        says("1 of the least SUM, then by CELLS.");
        FillCells x = field(0, 8, 1, 10, 2, 720, 7, 1);
        everywhere(x, '5');
        due("all like", x.next(), 0);
        x.sets(79, 0, 4);
        due("the last", x.next(), 79);
        x.sets(40, 0, 3);
        x.sets(60, 0, 3);
        due("of like ones the first", x.next(), 40);
        x.sets(41, 0, 2);
        due("less", x.next(), 41);
        x.more(41);
        due("like with fill", x.next(), 40);
        x.sets(40, 1, 1);
        due("a shut one is passed over", x.next(), 41);
        x.more(41);
        twins(x, 1, 0, 60);
        due("the sum of the cell, not of its family", x.next(), 60);
    }

    private static void rule2() {
        says("2 in the most THIN WINDOWS (the CELL itself), then by CELLS.");
        FillCells x = field(2, 1, 7, 2);
        due("the first that is in six", x.next(), 12);
        x.sets(12, 1, 1);
        due("the second", x.next(), 13);
        FillCells y = field(0, 1, 1, 1, 2, 1, 7, 2);
        everywhere(y, '1');
        y.sets(50, 0, 0);
        y.sets(79, 0, 0);
        twins(y, 3, 0, 79);
        due("not by its family", y.next(), 50);
        y.sets(50, 0, 1);
        due("the one of the family that is in it", y.next(), 79);
    }

    private static void rule3() {
        says("3 by which BURDENS of all NETS together become least, then by CELLS.");
        FillCells x = field(0, 1, 1, 1, 2, 1, 7, 3);
        everywhere(x, '1');
        for (int cell : new int[] {0, 2, 20, 50, 60}) {
            x.sets(cell, 0, 0);
        }
        net(x, 1, 1);
        net(x, 2, 10);
        due("by none, of like ones the first", x.next(), 50);
        x.sets(50, 1, 1);
        x.sets(60, 1, 1);
        due("by 1, of like ones the first", x.next(), 2);
        twins(x, 1, 2, 11);
        due("with its family by 3", x.next(), 20);
        x.sets(20, 1, 1);
        due("by 2", x.next(), 0);
        x.sets(0, 1, 1);
        due("by 3", x.next(), 2);
        net(x, 2, 11);
        net(x, 2, 2);
        due("of the nets themselves", x.next(), 2);
    }

    private static void rule4() {
        says("4 of the THIN WINDOW of the least SUM (of like ones the first by CELLS), those of whose FAMILY is one in it,"
            + " by CELLS");
        FillCells x = field(2, 7, 7, 4);
        everywhere(x, '1');
        due("all like", x.next(), 0);
        x.sets(44, 0, 0);
        due("the first of the least", x.next(), 32);
        x.sets(77, 0, 0);
        x.sets(79, 0, 0);
        due("the least of all lies last", x.next(), 67);
        x.sets(67, 1, 1);
        due("a shut one is passed over", x.next(), 68);
        twins(x, 2, 8, 78);
        due("of whose family is one in it", x.next(), 8);
        x.rules(2, 4);
        due("the least is not thin", x.next(), NONE);
        x.rules(2, 5);
        due("the least is thin", x.next(), 8);
        says("(if none of these MAY: none).");
        FillCells y = field(2, 7, 7, 4);
        everywhere(y, '1');
        y.sets(44, 0, 0);
        for (int cell : new int[] {32, 33, 34, 42, 43}) {
            y.sets(cell, 1, 1);
        }
        due("one of these may", y.next(), 44);
        y.sets(44, 1, 1);
        dueAll("none of these, though others are thin", got(y.next(), y.steps(1), y.rules(7, 0), y.next()), NONE, 0, 4, 0);
    }

    private static void aStep() {
        says("A STEP: the first one by THE RULE and its FAMILY get 1 more FILL.");
        for (int i = 0; i < 15; i++) {
            int rule = i % 5, group = 1 + i / 5;
            FillCells x = field(0, 8, 1, 10, 2, 3, 7, rule);
            twins(x, group, 0, 40, 79);
            dueAll("a family of three", got(x.next(), x.steps(60), x.all(0)), 0, 1, 3);
            fillsOf("each 1", x, new int[] {0, 40, 79, 1}, 1, 1, 1, 0);
            twins(x, 0, 0);
            x.rules(2, 4);
            dueAll("one by itself", got(x.next(), x.steps(60), x.all(0)), rule == 1 ? 1 : 0, 1, 4);
        }
    }

    // ---- 2, thinning

    private static void thinningFromTheLast() {
        says("2 THINNING: by CELLS from the last one back:");
        FillCells x = field(0, 8, 1, 10, 2, 3);
        fill(x, 0, 1);
        fill(x, 40, 1);
        fill(x, 50, 2);
        fill(x, 79, 1);
        due("two are too much", x.thins(), 2);
        fillsOf("the last ones", x, new int[] {0, 40, 50, 79}, 1, 1, 1, 0);
        x.rules(2, 1);
        due("two more", x.thins(), 2);
        fillsOf("down to the first", x, new int[] {0, 40, 50, 79}, 1, 0, 0, 0);
        says("as long as it has FILL");
        x.sets(79, 0, 5);
        x.rules(2, 0);
        dueAll("shapes stay", got(x.thins(), x.all(0), x.all(1)), 1, 0, 5);
        stays(x, 0, "none has fill", x::thins);
        fill(x, 0, 9);
        dueAll("all that it has", got(x.thins(), x.all(0)), 9, 0);
    }

    private static void thinningHolds() {
        says("and by 1 less for it and its FAMILY no WINDOW becomes THIN that is not,");
        FillCells x = field(0, 1, 1, 1, 2, 4);
        fill(x, 10, 4);
        stays(x, 0, "at LOW", x::thins);
        fill(x, 10, 1);
        dueAll("above LOW", got(x.thins(), x.of(10, 4)), 1, 4);
        x.rules(2, 5);
        dueAll("thin already", got(x.thins(), x.of(10, 4)), 4, 0);
        FillCells y = field(0, 1, 1, 10, 2, 5);
        twins(y, 1, 70, 79);
        fill(y, 70, 4);
        dueAll("8 less 2, less 2 is too much", got(y.thins(), y.sum(70)), 2, 6);
        FillCells z = field(0, 1, 1, 1, 2, 2);
        twins(z, 1, 5, 79);
        fill(z, 5, 3);
        z.sets(79, 0, 6);
        dueAll("one of the family holds the other", got(z.thins(), z.of(5, 4), z.of(79, 4)), 2, 2, 2);
        FillCells v = field(0, 1, 1, 2, 2, 3);
        fill(v, 1, 3);
        reads(v, "0 0.9;");
        dueAll("one window holds, though others need not", got(v.thins(), v.sum(0), v.sum(1)), 0, 3, 12);
    }

    private static void thinningTogether() {
        says("they lose 1.");
        FillCells x = new FillCells();
        twins(x, 2, 0, 33, 66);
        fill(x, 33, 2);
        fill(x, 1, 1);
        dueAll("each of them", got(x.thins(), x.all(0), x.all(2)), 7, 0, 0);
    }

    // ---- texts

    private static void textsRoom() {
        says("THE TEXT (120 bytes at most)");
        FillCells x = new FillCells();
        for (int i = 1; i <= 120; i++) {
            due("type", x.type("01;".charAt((i - 1) % 3)), i);
        }
        refuses(x, FULL, "the 121st", () -> x.type('x'));
        dueAll("40 rows", got(x.told(3), x.reads()), 120, 40);
        says("tells rows, each ended by ; :");
        dueAll("rows", got(reads(x, "01;"), reads(x, "01;01;"), reads(x, "01;11"), reads(x, "01;11;")), 1, 2, -15, 2);
    }

    private static void textsRow() {
        says("a figure 0 .. 7 (row),");
        FillCells x = new FillCells();
        for (int row = 0; row <= 7; row++) {
            dueAll("row " + row, got(reads(x, row + "5;"), x.of(10 * row, 0), x.all(1)), 1, 5, 5 * row + 5);
        }
        for (char c : "/89:#.;ax\0\177".toCharArray()) {
            due("no row: " + (int) c, reads(x, c + "1;"), -10);
            due("no row behind another: " + (int) c, reads(x, "01;" + c + "1;"), -13);
        }
        says("then 1 to 10 signs from its first CELL on:");
        FillCells y = new FillCells();
        dueAll("one sign", got(reads(y, "33;"), y.of(30, 0), y.all(1)), 1, 3, 3);
        dueAll("ten signs", got(reads(y, "31234567898;"), y.of(30, 0), y.of(39, 0), y.all(1)), 1, 1, 8, 53);
        dueAll("eleven signs, none", got(reads(y, "312345678981;"), reads(y, "3;"), y.all(1)), -21, -11, 53);
    }

    private static void textsSigns() {
        says("0 .. 9 (SHAPES, not SHUT),");
        FillCells x = new FillCells();
        everywhere(x, '#');
        reads(x, "7 0123456789;");
        for (int c = 0; c < 10; c++) {
            dueAll("sign " + c, got(x.of(70 + c, 0), x.of(70 + c, 1), x.of(60 + c, 1)), c, 0, 1);
        }
        says("# (SHUT, SHAPES stay),");
        reads(x, "7 ##;");
        dueAll("shut", got(x.of(70, 0), x.of(70, 1), x.of(71, 0), x.of(71, 1), x.of(72, 1)), 0, 1, 1, 1, 0);
        reads(x, "7 .#;");
        dueAll("shut already", got(x.of(71, 0), x.of(71, 1)), 1, 1);
        says(". (stays as it is).");
        FillCells y = new FillCells();
        y.sets(5, 0, 4);
        y.sets(6, 1, 1);
        y.sets(6, 0, 2);
        net(y, 3, 5);
        twins(y, 1, 5);
        fill(y, 5, 5);
        int[] ahead = cellsOf(y);
        reads(y, "0 ..........;");
        dueAll("all", cellsOf(y), ahead);
        reads(y, "0 .....0#;");
        dueAll("others of the row, net, twins", got(y.of(5, 0), y.of(5, 2), y.of(5, 3), y.of(5, 4), y.of(6, 0), y.of(6, 1)),
            0, 3, 1, 5, 2, 1);
    }

    private static void textsBlanks() {
        says("Blanks (32) may stand anywhere.");
        FillCells x = new FillCells();
        dueAll("anywhere", got(reads(x, "  0  1  2  ;  7  .  3  ;  "), x.of(0, 0), x.of(1, 0), x.of(71, 0), x.all(1)),
            2, 1, 2, 3, 6);
        dueAll("they are no signs", got(reads(x, "0 1 2 3 4 5 6 7 8 9 1;"), x.of(9, 0)), 1, 1);
        due("up to the last byte", reads(x, " ".repeat(117) + "05;"), 1);
        due("the last byte", reads(x, "05;" + " ".repeat(117)), 1);
        dueAll("31, 33, 9, 10 are none", got(reads(x, "0\037" + "1;"), reads(x, "0!1;"), reads(x, "\t01;"), reads(x, "01;\n")),
            -11, -11, -10, -13);
    }

    private static void textsFill() {
        says("FILL that is too much goes: a CELL with a SUM above 9 has FILL for 9 then,");
        FillCells x = new FillCells();
        for (int cell = 0; cell < 4; cell++) {
            fill(x, cell, 5);
        }
        reads(x, "0 3459;");
        fillsOf("8, 9, 10, 14", x, new int[] {0, 1, 2, 3}, 5, 5, 4, 0);
        says("a SHUT one none;");
        reads(x, "0 .#.#;");
        fillsOf("shut", x, new int[] {0, 1, 2, 3}, 5, 0, 4, 0);
        says("then all of each FAMILY have the least FILL of it.");
        FillCells y = new FillCells();
        twins(y, 1, 0, 20, 79);
        twins(y, 2, 1, 21, 78);
        twins(y, 3, 2, 22);
        for (int cell = 0; cell < 4; cell++) {
            fill(y, cell, 6);
        }
        reads(y, "7........#7;2 4..;");
        fillsOf("2 by 7, 0 by #, 5 is not the least", y, new int[] {0, 20, 79, 1, 21, 78, 2, 22, 3},
            2, 2, 2, 0, 0, 0, 6, 6, 6);
    }

    private static void faultAt() {
        says("FAULT: the place of the first byte that can not stand there");
        FillCells x = new FillCells();
        dueAll("first of two", got(reads(x, "0x1y;"), reads(x, " 01; 8x"), reads(x, "01;;;"), reads(x, "0 1 ,;")),
            -11, -15, -13, -14);
        due("the last byte of 120", reads(x, " ".repeat(116) + "01;?"), -10 - 119);
        due("the first byte", reads(x, "\0"), -10);
        says("(an 11th sign;");
        dueAll("11th", got(reads(x, "00123456789;"), reads(x, "001234567890;"), reads(x, "00123456789#;"),
            reads(x, "00123456789 . ;"), reads(x, "0##########;1..........;2 0123456789 0")), 1, -21, -21, -22, -10 - 37);
        says("; with none ahead);");
        dueAll("none ahead", got(reads(x, ";"), reads(x, "0;"), reads(x, "0 ;"), reads(x, "01;;"), reads(x, "01;2;")),
            -10, -11, -12, -13, -14);
    }

    private static void faultAtTheEnd() {
        says("the TEXT's length, if it ends too early");
        FillCells x = new FillCells();
        dueAll("ends", got(reads(x, "0"), reads(x, "0 "), reads(x, "01"), reads(x, "00123456789"), reads(x, "01;7"),
            reads(x, "01;7 1 ")), -11, -12, -12, -21, -14, -17);
        due("at its longest", reads(x, " ".repeat(118) + "01"), -130);
        says("(an empty one, too).");
        dueAll("empty", got(reads(x, ""), new FillCells().reads()), -10, -10);
        dueAll("blanks alone", got(reads(x, " "), reads(x, " ".repeat(120))), -11, -130);
        says("If there is one, nothing is done.");
        FillCells y = new FillCells();
        fill(y, 0, 5);
        for (String text : new String[] {"", "09#", "09#;8", "09;1;", "0999999999999;"}) {
            y.clear();
            for (char c : text.toCharArray()) {
                y.type(c);
            }
            int fault = text.length() == 14 ? 11 : text.equals("09;1;") || text.equals("09#;8") ? 4 : text.length();
            stays(y, -10 - fault, "reads '" + text + "'", y::reads);
            dueAll("the field", got(y.of(0, 0), y.of(0, 4), y.all(3), y.told(9)), 0, 5, 0, 5);
        }
    }

    // ---- changes, refused calls

    private static void changesUndone() {
        says("CHANGES (told C) can be undone, one by one, 8 at most;");
        FillCells x = new FillCells();
        for (int i = 1; i <= 8; i++) {
            dueAll("change", got(x.sets(79, 0, i), x.told(9)), i - 1, i);
        }
        for (int i = 7; i >= 0; i--) {
            dueAll("undo", got(x.undo(), x.of(79, 0), x.told(9)), i, i, i);
        }
        refuses(x, NO, "the ninth", x::undo);
        says("older ones are lost:");
        for (int changes = 9; changes <= 30; changes++) {
            FillCells y = new FillCells();
            for (int i = 0; i < changes; i++) {
                y.sets(i, 0, 1);
            }
            due("8 of " + changes, y.told(9), 8);
            for (int i = 7; i >= 0; i--) {
                dueAll("undo", got(y.undo(), y.all(1)), i, changes - 8 + i);
            }
            refuses(y, NO, "the ninth of " + changes, y::undo);
            dueAll("the oldest stays", got(y.of(0, 0), y.of(changes - 9, 0), y.of(changes - 8, 0)), 1, 1, 0);
            dueAll("from there on", got(y.sets(70, 0, 5), y.told(9), y.undo(), y.of(70, 0), y.all(1)), 0, 1, 0, 0, changes - 8);
        }
    }

    private static void changesBringBack() {
        says("all of 1 that is told of CELLS, as ahead.");
        FillCells x = new FillCells();
        x.sets(0, 0, 3);
        x.sets(79, 1, 1);
        net(x, 3, 9);
        twins(x, 2, 70, 1);
        twins(x, 1, 2);
        twins(x, 3, 3);
        x.more(1);
        int[] ahead = cellsOf(x);
        x.rules(0, 5);
        x.rules(1, 6);
        x.rules(2, 7);
        x.rules(3, 8);
        x.rules(4, 9);
        x.rules(7, 1);
        reads(x, "0 5;7 5........5;");
        net(x, 1, 9);
        twins(x, 3, 70);
        twins(x, 0, 2);
        x.empties();
        x.draw(1, 9);
        dueAll("undo", got(x.undo(), x.undo(), x.undo(), x.undo(), x.undo(), x.undo()), 7, 6, 5, 4, 3, 2);
        dueAll("cells", cellsOf(x), ahead);
        dueAll("what is not told of cells stays", got(x.told(3), x.told(4), x.told(5), x.told(6), x.told(7), x.told(8),
            x.rules(4, 0)), 17, 5, 6, 7, 8, 1, 9);
    }

    private static void refusedCalls() {
        says("Refused, changing nothing but how often, the first of:");
        FillCells x = field(2, 9, 3, 40, 7, 2);
        x.draw(5, 4);
        x.steps(20);
        for (int i = 0; i < 120; i++) {
            x.type('0');
        }
        refuses(x, BAD, "BAD ahead of FULL", () -> x.type(128));
        refuses(x, BAD, "BAD ahead of FULL", () -> x.type(-1));
        refuses(x, BAD, "BAD ahead of NO", () -> x.less(80));
        says("BAD -2 a number is not as told;");
        due("BAD", FillCells.BAD, -2);
        for (int v : new int[] {MIN, -1, MAX}) {
            refuses(x, -2, "sets", () -> x.sets(0, 0, v));
            refuses(x, -2, "draw", () -> x.draw(0, v));
            refuses(x, -2, "rules", () -> x.rules(2, v));
            refuses(x, -2, "of", () -> x.of(0, v));
            refuses(x, -2, "steps", () -> x.steps(v));
            refuses(x, -2, "best", () -> x.best(v));
            refuses(x, -2, "told", () -> x.told(v));
        }
        says("NO -3 as told;");
        due("NO", FillCells.NO, -3);
        x.sets(0, 1, 1);
        refuses(x, -3, "more", () -> x.more(0));
        refuses(x, -3, "less", () -> x.less(0));
        FillCells y = new FillCells();
        refuses(y, -3, "undo", y::undo);
        says("FULL -4 as told.");
        due("FULL", FillCells.FULL, -4);
        refuses(x, -4, "type", () -> x.type(0));
        refuses(x, -4, "type", () -> x.type(127));
        says("By a FAULT nothing counts.");
        stays(x, -10 - 11, "reads", x::reads);
        x.clear();
        stays(x, -10, "reads an empty one", x::reads);
        dueAll("how often", got(x.told(0), x.told(1), x.told(2)), 3 + 21, 2, 2);
    }

    public static void main(String[] args) {
        goThrough("taken back. ========", "An object", TermsEdgeTest::theField);
        goThrough("(CELL 10 r and c).", "## The public face", TermsEdgeTest::callsOfAnObject);
        goThrough("## Terms", "Ahead of the calls `sets`", TermsEdgeTest::shapesOfACell, TermsEdgeTest::shutOrNot,
            TermsEdgeTest::netOfACell, TermsEdgeTest::twinsOfACell, TermsEdgeTest::fillOfACell, TermsEdgeTest::sumOfACell,
            TermsEdgeTest::windowsSize, TermsEdgeTest::whereWindowsLie, TermsEdgeTest::sumOfAWindow,
            TermsEdgeTest::lowAndHigh, TermsEdgeTest::thinAndThick, TermsEdgeTest::burdenOfANet,
            TermsEdgeTest::burdenEachOnce, TermsEdgeTest::limitOfANet, TermsEdgeTest::familyOfACell,
            TermsEdgeTest::mayIfNoneIsShut, TermsEdgeTest::mayIfNoneHas9, TermsEdgeTest::mayIfNoneIsThick,
            TermsEdgeTest::mayByBurdens, TermsEdgeTest::mayThoughOthersAreTooFull, TermsEdgeTest::rulesInAll,
            TermsEdgeTest::rule0, TermsEdgeTest::rule1, TermsEdgeTest::rule2, TermsEdgeTest::rule3, TermsEdgeTest::rule4,
            TermsEdgeTest::aStep, TermsEdgeTest::thinningFromTheLast, TermsEdgeTest::thinningHolds,
            TermsEdgeTest::thinningTogether, TermsEdgeTest::textsRoom, TermsEdgeTest::textsRow, TermsEdgeTest::textsSigns,
            TermsEdgeTest::textsBlanks, TermsEdgeTest::textsFill, TermsEdgeTest::faultAt, TermsEdgeTest::faultAtTheEnd,
            TermsEdgeTest::changesUndone, TermsEdgeTest::changesBringBack, TermsEdgeTest::refusedCalls);
        end("TermsEdgeTest");
    }
}
