import java.math.BigInteger;

/** Each promise of the document by itself: ordinary inputs, the edges it names, wrong inputs; worked out by hand. */
public final class PromiseTest extends Due {
    private static void newObject() {
        FillCells x = new FillCells();
        int[] told = {0, 0, 0, 0, 2, 3, 0, 720, 0, 0};
        for (int i = 0; i < 10; i++) {
            due("told(" + i + ")", x.told(i), told[i]);
        }
        for (int cell = 0; cell < 80; cell++) {
            for (int what = 0; what <= 4; what++) {
                due("of(" + cell + ", " + what + ")", x.of(cell, what), 0);
            }
        }
        for (int what = 4; what <= 6; what++) {
            due("limit", x.rules(what, 0), 99);
        }
        due("windows(0)", x.windows(0), 56);
        due("next()", x.next(), NONE);
        due("undo()", x.undo(), NO);
        due("clear()", x.clear(), 0);
        dueAll("constants", new int[] {NONE, BAD, NO, FULL}, -1, -2, -3, -4);
        FillCells other = new FillCells();
        other.sets(0, 0, 5);
        due("an object of its own", x.of(0, 0), 0);
    }

    private static void sets() {
        FillCells x = new FillCells();
        dueAll("what it was", new int[] {x.sets(79, 0, 9), x.sets(79, 0, 4), x.sets(79, 0, 0), x.sets(79, 1, 1),
            x.sets(79, 1, 0), x.sets(79, 2, 3), x.sets(79, 2, 1), x.sets(79, 3, 2), x.sets(79, 3, 0)},
            0, 9, 4, 0, 1, 0, 3, 0, 2);
        due("of NET", x.of(79, 2), 1);
        due("told(9)", x.told(9), 8);

        x = new FillCells();
        fill(x, 5, 4);
        x.sets(5, 0, 5);
        due("fill that has room", x.of(5, 4), 4);
        x.sets(5, 0, 7);
        due("fill for 9", x.of(5, 4), 2);
        x.sets(5, 0, 0);
        due("fill that is gone", x.of(5, 4), 2);
        x.sets(5, 1, 1);
        due("fill of a shut one", x.of(5, 4), 0);
        x.sets(5, 1, 0);
        due("fill of one that was shut", x.of(5, 4), 0);

        x = new FillCells();
        fill(x, 1, 3);
        fill(x, 2, 5);
        fill(x, 3, 4);
        x.sets(2, 3, 1);
        due("a twin alone", x.of(2, 4), 5);
        x.sets(1, 3, 1);
        x.sets(3, 3, 2);
        dueAll("the least of twins", new int[] {x.of(1, 4), x.of(2, 4), x.of(3, 4)}, 3, 3, 4);
        x.sets(3, 3, 1);
        dueAll("one comes", new int[] {x.of(1, 4), x.of(2, 4), x.of(3, 4)}, 3, 3, 3);
        x.sets(3, 3, 0);
        x.sets(1, 0, 8);
        dueAll("one loses", new int[] {x.of(1, 4), x.of(2, 4), x.of(3, 4)}, 1, 1, 3);
        x.sets(2, 1, 1);
        dueAll("one is shut", new int[] {x.of(1, 4), x.of(2, 4), x.of(3, 4)}, 0, 0, 3);
        x.sets(3, 2, 1);
        due("a net takes none", x.of(3, 4), 3);

        for (int edge : new int[] {0, 79}) {
            x = new FillCells();
            fill(x, edge, 4);
            fill(x, 40, 2);
            x.sets(40, 3, 3);
            x.sets(edge, 3, 3);
            dueAll("the cell at the end loses", new int[] {x.of(edge, 4), x.of(40, 4)}, 2, 2);
            x.sets(edge, 0, 8);
            dueAll("the cell at the end makes lose", new int[] {x.of(edge, 4), x.of(40, 4)}, 1, 1);
        }

        x = new FillCells();
        dueAll("wrong", new int[] {x.sets(-1, 0, 0), x.sets(80, 0, 0), x.sets(0, -1, 0), x.sets(0, 4, 0),
            x.sets(0, 0, -1), x.sets(0, 0, 10), x.sets(0, 1, -1), x.sets(0, 1, 2), x.sets(0, 2, -1), x.sets(0, 2, 4),
            x.sets(0, 3, -1), x.sets(0, 3, 4), x.sets(Integer.MIN_VALUE, Integer.MAX_VALUE, Integer.MIN_VALUE)},
            BAD, BAD, BAD, BAD, BAD, BAD, BAD, BAD, BAD, BAD, BAD, BAD, BAD);
        due("told(0)", x.told(0), 13);
        due("told(9)", x.told(9), 0);
        due("same value", x.sets(0, 0, 0), 0);
        due("C though the same", x.told(9), 1);
    }

    private static void draw() {
        for (int seed : new int[] {0, 1, 7, 999999}) {
            for (int v : new int[] {0, 1, 5, 9}) {
                FillCells x = new FillCells();
                x.sets(3, 1, 1);
                x.sets(4, 2, 2);
                x.sets(5, 3, 3);
                fill(x, 6, 2);
                int got = x.draw(seed, v);
                BigInteger last = BigInteger.valueOf(seed);
                int together = 0;
                for (int cell = 0; cell < 80; cell++) {
                    last = last.multiply(BigInteger.valueOf(1103515245)).add(BigInteger.valueOf(12345))
                        .mod(BigInteger.valueOf(2147483648L));
                    int shapes = last.divide(BigInteger.valueOf(65536)).mod(BigInteger.valueOf(v + 1)).intValue();
                    due("shapes of " + cell, x.of(cell, 0), shapes);
                    together += shapes;
                }
                due("draw(" + seed + ", " + v + ")", got, together);
                due("window", x.sum(0), x.of(0, 0) + x.of(1, 0) + x.of(2, 0) + x.of(10, 0) + x.of(11, 0) + x.of(12, 0));
                dueAll("all else", new int[] {x.all(0), x.of(3, 1), x.of(4, 2), x.of(5, 3)}, 0, 1, 2, 3);
                due("undo()", x.undo(), 5);
                dueAll("undone", new int[] {x.all(0), x.all(1)}, 2, 0);
            }
        }
        FillCells x = new FillCells();
        due("draw(7, 5)", x.draw(7, 5), 198);
        dueAll("wrong", new int[] {x.draw(-1, 0), x.draw(1000000, 0), x.draw(0, -1), x.draw(0, 10)}, BAD, BAD, BAD, BAD);
        dueAll("nothing changed", new int[] {x.all(1), x.told(9), x.told(0)}, 198, 1, 4);
    }

    private static void empties() {
        FillCells x = new FillCells();
        due("none there", x.empties(), 0);
        due("C though none", x.told(9), 1);
        x.sets(0, 0, 3);
        x.sets(1, 2, 1);
        fill(x, 0, 3);
        fill(x, 79, 2);
        dueAll("empties()", new int[] {x.empties(), x.all(0), x.all(1), x.burden(1), x.sum(0)}, 5, 0, 3, 0, 3);
        x.undo();
        dueAll("undone", new int[] {x.all(0), x.burden(1), x.sum(0)}, 5, 3, 6);
    }

    private static void rules() {
        FillCells x = new FillCells();
        int[] first = {2, 3, 0, 720, 99, 99, 99, 0};
        int[] least = {1, 1, 0, 0, 0, 0, 0, 0};
        int[] most = {8, 10, 720, 720, 99, 99, 99, 4};
        for (int what = 0; what < 8; what++) {
            dueAll("rules(" + what + ", ..)", new int[] {x.rules(what, least[what]), x.rules(what, most[what]),
                x.rules(what, least[what] - 1), x.rules(what, most[what] + 1), x.rules(what, first[what])},
                first[what], least[what], BAD, BAD, most[what]);
        }
        dueAll("what", new int[] {x.rules(-1, 1), x.rules(8, 1)}, BAD, BAD);
        dueAll("told", new int[] {x.told(0), x.told(9)}, 18, 0);
        x.sets(0, 0, 4);
        x.rules(2, 5);
        due("thin at once", x.windows(1), 56);
        x.rules(2, 4);
        due("thin below LOW alone", x.windows(1), 55);
        x.rules(3, 4);
        due("not thick", x.windows(2), 0);
        x.rules(3, 3);
        due("thick above HIGH", x.windows(2), 1);
        x.undo();
        dueAll("rules are not undone", new int[] {x.told(6), x.told(7), x.windows(1)}, 4, 3, 56);
        x.rules(5, 7);
        dueAll("limit of net 2 alone", new int[] {x.rules(4, 0), x.rules(5, 0), x.rules(6, 0)}, 99, 7, 99);
    }

    private static void of() {
        FillCells x = field(2, 1);
        x.sets(24, 0, 3);
        x.sets(24, 2, 2);
        x.sets(24, 3, 1);
        fill(x, 24, 2);
        dueAll("of(24, ..)", new int[] {x.of(24, 0), x.of(24, 1), x.of(24, 2), x.of(24, 3), x.of(24, 4), x.of(24, 5),
            x.of(24, 6)}, 3, 0, 2, 1, 2, 1, 0);
        dueAll("thin windows", new int[] {x.of(0, 6), x.of(1, 6), x.of(2, 6), x.of(12, 6), x.of(79, 6), x.of(25, 6)},
            1, 2, 3, 5, 1, 2);
        dueAll("wrong", new int[] {x.of(-1, 0), x.of(80, 0), x.of(0, -1), x.of(0, 7)}, BAD, BAD, BAD, BAD);
        due("told(0)", x.told(0), 4);
        due("told(9)", x.told(9), 5);
    }

    private static void mayByCellAndWindow() {
        FillCells x = new FillCells();
        x.sets(0, 0, 9);
        x.sets(1, 1, 1);
        x.sets(2, 0, 8);
        dueAll("may", new int[] {x.of(0, 5), x.of(1, 5), x.of(2, 5)}, 0, 0, 1);
        fill(x, 2, 1);
        due("a sum of 9", x.of(2, 5), 0);

        x = field(3, 2);
        fill(x, 0, 2);
        due("two in a window", x.of(0, 4), 2);
        dueAll("a third", new int[] {x.of(0, 5), x.of(2, 5), x.of(12, 5), x.of(3, 5), x.of(20, 5)}, 0, 0, 0, 1, 1);
        dueAll("one out and in again", new int[] {x.less(0), x.of(2, 5), x.of(0, 5), x.more(0), x.of(2, 5)}, 1, 1, 1, 2, 0);
        x.rules(3, 1);
        dueAll("thick without it", new int[] {x.windows(2), x.of(3, 5), x.of(79, 5), x.of(0, 5)}, 1, 1, 1, 0);

        x = field(3, 1);
        x.sets(0, 3, 1);
        x.sets(2, 3, 1);
        due("twins in one window", x.of(0, 5), 0);
        x.rules(3, 2);
        due("room for both", x.of(2, 5), 1);
        x.sets(79, 3, 1);
        due("one far off", x.of(79, 5), 1);
        x.sets(67, 0, 2);
        due("the far one's window is full", x.of(0, 5), 0);
        x.sets(67, 0, 1);
        due("it has room", x.of(0, 5), 1);
        x.sets(79, 1, 1);
        due("the far one is shut", x.of(0, 5), 0);
        x.sets(79, 1, 0);
        x.rules(3, 720);
        x.sets(79, 0, 9);
        due("the far one has 9", x.of(0, 5), 0);
        x.sets(0, 3, 2);
        due("other twins", x.of(0, 5), 1);
        x.sets(30, 3, 2);
        x.sets(0, 0, 9);
        due("cell 0 has 9", x.of(30, 5), 0);
    }

    private static void mayByNet() {
        FillCells x = field(4, 1);
        x.sets(11, 2, 1);
        due("beside", x.more(1), 1);
        dueAll("at the limit", new int[] {x.of(1, 5), x.of(10, 5), x.of(12, 5), x.of(21, 5), x.of(11, 5), x.of(0, 5),
            x.of(31, 5)}, 0, 0, 0, 0, 1, 1, 1);
        x.rules(4, 0);
        dueAll("above the limit", new int[] {x.burden(1), x.of(12, 5), x.of(11, 5), x.of(79, 5)}, 1, 0, 1, 1);

        x = field(5, 1);
        x.sets(11, 2, 2);
        x.sets(1, 3, 3);
        x.sets(10, 3, 3);
        due("twins, both beside", x.of(1, 5), 0);
        x.rules(5, 2);
        due("room for both", x.of(10, 5), 1);
        x.rules(5, 1);
        x.sets(10, 2, 2);
        due("one is of the net", x.of(10, 5), 1);
        x.sets(9, 2, 3);
        x.rules(6, 0);
        due("not beside over the edge", x.of(10, 5), 1);
        due("beside at the edge", x.of(8, 5), 0);
    }

    private static void sum() {
        FillCells x = new FillCells();
        reads(x, "0 1234;1 5678;7 0000000999;");
        fill(x, 1, 2);
        dueAll("sum", new int[] {x.sum(0), x.sum(1), x.sum(67), x.sum(68), x.sum(70), x.sum(7), x.sum(8), x.sum(79)},
            26, 32, 27, NONE, NONE, 0, NONE, NONE);
        x.rules(0, 1);
        x.rules(1, 1);
        dueAll("of one cell", new int[] {x.sum(1), x.sum(79)}, 4, 9);
        x.rules(0, 8);
        x.rules(1, 10);
        dueAll("of all", new int[] {x.sum(0), x.sum(1), x.sum(10)}, 65, NONE, NONE);
        dueAll("wrong", new int[] {x.sum(-1), x.sum(80), x.told(0)}, BAD, BAD, 2);
    }

    private static void windows() {
        FillCells x = field(2, 6, 3, 6);
        x.sets(0, 0, 6);
        x.sets(79, 0, 7);
        dueAll("windows", new int[] {x.windows(0), x.windows(1), x.windows(2), x.windows(3)}, 56, 54, 1, 3);
        x.rules(0, 8);
        dueAll("8 by 3", new int[] {x.windows(0), x.windows(1), x.windows(2), x.windows(3)}, 8, 6, 1, 3);
        x.rules(1, 10);
        dueAll("8 by 10", new int[] {x.windows(0), x.windows(1), x.windows(2), x.windows(3)}, 1, 0, 1, 1);
        x.rules(0, 1);
        x.rules(1, 1);
        dueAll("1 by 1", new int[] {x.windows(0), x.windows(1), x.windows(2), x.windows(3)}, 80, 78, 1, 3);
        dueAll("wrong", new int[] {x.windows(-1), x.windows(4), x.told(0)}, BAD, BAD, 2);
        reads(x, "0 .123456789;1 0123456789;");
        due("ten unlike", x.windows(3), 10);
    }

    private static void worst() {
        FillCells x = field(0, 1, 1, 1);
        dueAll("all like", new int[] {x.worst(0), x.worst(1), x.worst(2), x.worst(3)}, 0, 0, 0, 0);
        x.draw(0, 0);
        reads(x, "0 3333333333;1 3333333333;2 3333333333;3 3333333333;");
        reads(x, "4 3353333333;5 3315555555;6 3333133333;7 3333333331;");
        dueAll("first ones", new int[] {x.worst(0), x.worst(1), x.worst(2), x.worst(3)}, 52, 42, 1, 5);
        fill(x, 79, 8);
        dueAll("with fill", new int[] {x.worst(0), x.worst(1), x.worst(2), x.worst(3)}, 52, 79, 1, 9);
        dueAll("wrong", new int[] {x.worst(-1), x.worst(4), x.told(0)}, BAD, BAD, 2);
    }

    private static void order() {
        FillCells x = field(0, 1, 1, 1);
        reads(x, "0 957;7 .......577;");
        dueAll("sums", new int[] {x.order(0, 0), x.order(1, 0), x.order(2, 0), x.order(3, 0), x.order(4, 0),
            x.order(80, 0), x.order(Integer.MAX_VALUE, 0)}, 0, 5, 7, 9, NONE, NONE, NONE);
        dueAll("how many", new int[] {x.order(0, 1), x.order(1, 1), x.order(2, 1), x.order(3, 1), x.order(4, 1),
            x.order(Integer.MAX_VALUE, 1)}, 74, 2, 3, 1, NONE, NONE);
        dueAll("wrong", new int[] {x.order(-1, 0), x.order(0, -1), x.order(0, 2), x.order(-1, 1), x.order(99, 2)},
            BAD, BAD, BAD, BAD, BAD);
        due("told(0)", x.told(0), 5);
    }

    private static void turn() {
        FillCells x = field(0, 1, 1, 1);
        reads(x, "0 957;7 .......577;");
        dueAll("turn", new int[] {x.turn(0), x.turn(73), x.turn(74), x.turn(75), x.turn(76), x.turn(77), x.turn(78),
            x.turn(79), x.turn(80), x.turn(Integer.MAX_VALUE)}, 3, 76, 1, 77, 2, 78, 79, 0, NONE, NONE);
        x.rules(0, 8);
        x.rules(1, 9);
        dueAll("two windows", new int[] {x.turn(0), x.turn(1), x.turn(2)}, 1, 0, NONE);
        dueAll("wrong", new int[] {x.turn(-1), x.turn(Integer.MIN_VALUE), x.told(0)}, BAD, BAD, 2);
    }

    private static void burden() {
        FillCells x = new FillCells();
        for (int cell = 0; cell < 80; cell++) {
            x.more(cell);
        }
        x.sets(11, 2, 1);
        due("four beside", x.burden(1), 4);
        x.sets(12, 2, 1);
        due("those of it do not count", x.burden(1), 6);
        x.sets(22, 2, 1);
        due("each once", x.burden(1), 7);
        x.sets(21, 2, 2);
        dueAll("other nets", new int[] {x.burden(1), x.burden(2), x.burden(3)}, 7, 4, 0);
        x.sets(0, 2, 3);
        x.sets(79, 2, 3);
        x.sets(9, 2, 3);
        due("corners", x.burden(3), 6);
        x.more(1); // beside 0 (net 3) and 11 (net 1)
        dueAll("of two nets", new int[] {x.burden(1), x.burden(3)}, 8, 7);
        dueAll("wrong", new int[] {x.burden(0), x.burden(4), x.burden(-1), x.told(0)}, BAD, BAD, BAD, 3);
    }

    private static void all() {
        FillCells x = new FillCells();
        reads(x, "0 123#;5 ##9;");
        fill(x, 0, 3);
        fill(x, 79, 1);
        dueAll("all", new int[] {x.all(0), x.all(1), x.all(2), x.all(3)}, 4, 15, 2, 3);
        dueAll("wrong", new int[] {x.all(-1), x.all(4), x.told(0)}, BAD, BAD, 2);
    }

    private static void more() {
        FillCells x = new FillCells();
        x.sets(7, 0, 7);
        dueAll("more(7)", new int[] {x.more(7), x.more(7), x.more(7), x.told(1), x.told(9)}, 1, 2, NO, 1, 3);
        x.sets(20, 3, 1);
        x.sets(40, 3, 1);
        dueAll("twins", new int[] {x.more(40), x.more(20), x.of(20, 4), x.of(40, 4), x.told(9)}, 1, 2, 2, 2, 7);
        dueAll("undone at once", new int[] {x.undo(), x.of(20, 4), x.of(40, 4)}, 6, 1, 1);
        x.sets(40, 1, 1);
        dueAll("a shut twin", new int[] {x.more(20), x.more(40), x.told(1)}, NO, NO, 3);
        dueAll("wrong", new int[] {x.more(-1), x.more(80), x.told(0), x.told(9)}, BAD, BAD, 2, 7);
        due("without a thin window", x.more(0), 1);
    }

    private static void less() {
        FillCells x = new FillCells();
        fill(x, 7, 2);
        dueAll("less(7)", new int[] {x.less(7), x.less(7), x.less(7), x.told(1), x.told(9)}, 1, 0, NO, 1, 4);
        x.sets(20, 3, 2);
        x.sets(40, 3, 2);
        fill(x, 20, 3);
        dueAll("twins", new int[] {x.less(40), x.of(20, 4), x.of(40, 4), x.all(0)}, 2, 2, 2, 4);
        due("undo()", x.undo(), 7);
        due("undone at once", x.all(0), 6);
        dueAll("wrong", new int[] {x.less(-1), x.less(80), x.told(0)}, BAD, BAD, 2);
        x.rules(2, 720);
        due("though it becomes thin", x.less(20), 2);
        x.sets(0, 0, 5);
        due("shapes are no fill", x.less(0), NO);
    }

    private static void next() {
        FillCells x = field(2, 1);
        due("rule 0", x.next(), 0);
        x.sets(0, 1, 1);
        due("rule 0, one shut", x.next(), 1);
        x.sets(2, 0, 1);
        due("rule 0, the first windows are not thin", x.next(), 3);

        x = field(2, 9, 7, 1);
        reads(x, "0 2212222222;1 2222222221;");
        due("rule 1, least sum", x.next(), 20);
        reads(x, "2 2222222222;3 2222222222;4 2222222222;5 2222222222;");
        reads(x, "6 2222222222;7 2222222222;");
        due("no thin window", x.next(), NONE);
        x.rules(2, 12);
        due("rule 1, least sum in a thin window", x.next(), 2);
        x.more(2);
        due("rule 1, the sum with fill", x.next(), 19);

        x = field(2, 1, 7, 2);
        due("rule 2, in the most thin windows", x.next(), 12);
        x.sets(12, 0, 1);
        due("rule 2, further on", x.next(), 15);

        x = field(2, 1, 7, 3);
        x.sets(1, 2, 1);
        due("rule 3, of the net itself", x.next(), 1);
        x.sets(0, 2, 2);
        due("rule 3, beside none", x.next(), 3);
        x.sets(3, 3, 1);
        x.sets(11, 3, 1);
        due("rule 3, with the twin", x.next(), 4);

        x = field(2, 1, 7, 4);
        x.sets(0, 0, 1);
        due("rule 4", x.next(), 1);
        x.sets(0, 3, 1);
        x.sets(12, 3, 1);
        due("rule 4, by its twin", x.next(), 0);
        reads(x, "0 .###;1 .###;");
        due("rule 4, none in it may", x.next(), NONE);
        x.rules(7, 0);
        due("rule 0, though", x.next(), 4);
        x.rules(7, 4);
        x.rules(2, 0);
        due("rule 4, none thin", x.next(), NONE);
        due("told(9)", x.told(9), 4);
    }

    private static void nextOfTwins() {
        for (int rule = 0; rule <= 4; rule++) {
            FillCells x = field(0, 1, 1, 1, 2, 1, 7, rule);
            for (int row = 0; row < 8; row++) {
                reads(x, row + "1111111111;");
            }
            x.sets(79, 0, 0);
            x.sets(30, 3, 2);
            x.sets(79, 3, 2);
            due("a twin of one in a thin window, rule " + rule, x.next(), rule == 1 || rule == 2 ? 79 : 30);
            dueAll("step", new int[] {x.steps(5), x.of(30, 4), x.of(79, 4), x.next()}, 1, 1, 1, NONE);
            x.sets(0, 0, 0);
            x.sets(0, 3, 1);
            x.sets(30, 3, 1);
            x.sets(30, 0, 0);
            due("cell 0 is the thin one", x.next(), 0);
            x.sets(0, 1, 1);
            due("cell 0 is shut", x.next(), NONE);
        }
    }

    private static void steps() {
        FillCells x = field(0, 1, 1, 1, 2, 2);
        dueAll("steps", new int[] {x.steps(1), x.steps(3), x.of(0, 4), x.of(1, 4), x.told(9)}, 1, 3, 2, 2, 2);
        dueAll("one C", new int[] {x.undo(), x.all(0), x.undo(), x.all(0)}, 1, 1, 0, 0);
        dueAll("60", new int[] {x.steps(60), x.steps(60), x.steps(60), x.told(9), x.steps(60), x.told(9)},
            60, 60, 40, 3, 0, 3);
        dueAll("wrong", new int[] {x.steps(0), x.steps(61), x.steps(-1), x.told(0), x.told(9)}, BAD, BAD, BAD, 3, 3);
        x = field(2, 54, 3, 10);
        int done = x.steps(60);
        due("none thick by steps", x.windows(2), 0);
        due("as long as there is one", x.next() == NONE ? 1 : 0, done < 60 ? 1 : 0);
        x = field(0, 8, 1, 10, 2, 6);
        x.sets(0, 3, 1);
        x.sets(1, 3, 1);
        dueAll("twins in a step", new int[] {x.steps(60), x.all(0)}, 3, 6);
    }

    private static void thins() {
        FillCells x = field(0, 1, 1, 1, 2, 2);
        fill(x, 5, 4);
        fill(x, 6, 1);
        dueAll("thins", new int[] {x.thins(), x.of(5, 4), x.of(6, 4), x.told(9)}, 3, 2, 0, 6);
        dueAll("none", new int[] {x.thins(), x.told(9)}, 0, 6);
        dueAll("undone", new int[] {x.undo(), x.all(0)}, 5, 5);

        x = field(0, 1, 1, 10, 2, 1);
        fill(x, 3, 1);
        fill(x, 6, 1);
        dueAll("from the last one back", new int[] {x.thins(), x.of(3, 4), x.of(6, 4), x.told(9)}, 1, 1, 0, 3);

        x = field(0, 1, 1, 1, 2, 2);
        x.sets(20, 3, 1);
        x.sets(40, 3, 1);
        x.sets(41, 3, 1);
        x.sets(41, 0, 5);
        fill(x, 20, 3);
        dueAll("twins", new int[] {x.thins(), x.of(20, 4), x.of(40, 4), x.of(41, 4)}, 3, 2, 2, 2);
        x.sets(40, 1, 0);
        x.rules(2, 0);
        dueAll("none is thin without LOW", new int[] {x.thins(), x.all(0)}, 6, 0);

        x = field(0, 1, 1, 10, 2, 5);
        x.sets(0, 3, 1);
        x.sets(1, 3, 1);
        fill(x, 0, 4);
        dueAll("two of twins in a window", new int[] {x.thins(), x.all(0)}, 2, 6);
    }

    private static void best() {
        FillCells x = field(0, 1, 1, 1, 2, 1, 7, 3);
        x.sets(3, 3, 0);
        long ahead = x.digest();
        dueAll("40 at most", new int[] {x.best(0), x.best(1), x.best(2)}, 0, 40, 40);
        x.rules(2, 1);
        due("all stays", x.digest(), ahead);
        x = field(0, 8, 1, 10, 2, 41);
        dueAll("too little, thinned", new int[] {x.best(0), x.best(1), x.best(2)}, 0, 1, 0);
        x.rules(2, 40);
        dueAll("just enough", new int[] {x.best(0), x.best(1), x.best(2)}, 0, 0, 40);
        x.more(0);
        x.rules(2, 41);
        dueAll("with fill that is there", new int[] {x.best(0), x.best(1), x.best(2), x.all(0)}, 0, 0, 41, 1);
        x = field(2, 1);
        dueAll("rule 2", new int[] {x.best(0), x.best(1), x.best(2), x.all(0), x.told(8), x.told(9)}, 2, 0, 12, 0, 0, 0);
        dueAll("wrong", new int[] {x.best(-1), x.best(3), x.told(0)}, BAD, BAD, 2);
        x = field(0, 8, 1, 10, 2, 1);
        reads(x, "0 #;");
        x.sets(1, 3, 1);
        x.sets(2, 3, 1);
        dueAll("like ones", new int[] {x.best(0), x.best(1), x.best(2)}, 0, 0, 2);
        x.sets(11, 2, 1);
        dueAll("the least fill, past the twins", new int[] {x.best(0), x.best(1), x.best(2)}, 3, 0, 1);
    }

    private static void row() {
        FillCells x = new FillCells();
        dueAll("bare", new int[] {x.row(0, 0), x.row(0, 9), x.row(0, 10), x.row(7, 27), x.row(0, 28)},
            0, 27, 30, 90, NONE);
        x.sets(2, 1, 1);
        due("one shut", x.row(0, 9), 27);
        x.sets(1, 1, 1);
        dueAll("two shut", new int[] {x.row(0, 9), x.row(0, 10), x.row(1, 10)}, 36, NONE, 30);
        x.sets(2, 0, 4);
        dueAll("shapes of a shut one", new int[] {x.row(0, 9), x.row(0, 4)}, 28, 8);
        x = field(1, 1);
        x.sets(70, 0, 9);
        x.sets(71, 0, 8);
        fill(x, 72, 5);
        long ahead = x.digest();
        dueAll("by ones", new int[] {x.row(7, 9), x.row(7, 10), x.row(7, 1)}, 73, NONE, 8);
        due("nothing is done", x.digest(), ahead);
        x.rules(1, 10);
        dueAll("by ten", new int[] {x.row(7, 90), x.row(7, 17), x.row(7, 18)}, 73, 0, 1);
        x.sets(73, 3, 1);
        x.sets(74, 3, 1);
        x.rules(3, 0);
        due("all else is not asked", x.row(7, 90), 73);
        dueAll("wrong", new int[] {x.row(-1, 0), x.row(8, 0), x.row(0, -1), x.row(0, 91), x.told(0)},
            BAD, BAD, BAD, BAD, 4);
    }

    private static void undo() {
        FillCells x = new FillCells();
        int[][] fields = new int[12][];
        for (int i = 0; i < 12; i++) {
            fields[i] = cellsOf(x);
            switch (i) {
                case 4: x.draw(5, 7); break;
                case 5: x.sets(3, 1, 1); break;
                case 6: x.sets(4, 2, 3); break;
                case 7: x.sets(4, 3, 2); break;
                case 8: x.more(20); break;
                case 9: reads(x, "2#.5;"); break;
                case 10: x.empties(); break;
                default: x.more(9); break;
            }
        }
        for (int i = 11; i >= 4; i--) {
            due("undo()", x.undo(), i - 4);
            due("told(9)", x.told(9), i - 4);
            dueAll("the field ahead of change " + i, cellsOf(x), fields[i]);
        }
        dueAll("no more", new int[] {x.undo(), x.undo(), x.told(1), x.told(9)}, NO, NO, 2, 0);
        due("change", x.more(0), 1);
        due("undo()", x.undo(), 0);
        x = new FillCells();
        for (int i = 1; i <= 9; i++) {
            x.sets(i, 0, i);
        }
        dueAll("none done with 8 kept", new int[] {x.steps(9), x.thins(), x.sets(0, 0, 10), x.less(0), x.told(9)},
            0, 0, BAD, NO, 8);
        for (int i = 9; i >= 2; i--) {
            dueAll("undone in order", new int[] {x.undo(), x.of(i, 0), x.of(i - 1, 0)}, i - 2, 0, i - 1);
        }

        x = new FillCells();
        x.sets(11, 2, 1);
        x.more(1);
        x.rules(2, 1);
        dueAll("what follows", new int[] {x.burden(1), x.windows(1), x.of(0, 6)}, 1, 54, 0);
        x.undo();
        dueAll("what follows, undone", new int[] {x.burden(1), x.windows(1), x.of(0, 6)}, 0, 56, 1);
    }

    private static void type() {
        FillCells x = new FillCells();
        dueAll("type", new int[] {x.type(0), x.type(127), x.type(-1), x.type(128), x.told(0), x.told(3)},
            1, 2, BAD, BAD, 2, 2);
        for (int i = 3; i <= 120; i++) {
            due("type", x.type(48), i);
        }
        dueAll("full", new int[] {x.type(48), x.type(128), x.told(0), x.told(2), x.told(3)}, FULL, BAD, 3, 1, 120);
        due("clear()", x.clear(), 120);
        due("room again", x.type(48), 1);
        due("told(9)", x.told(9), 0);
    }

    private static void clear() {
        FillCells x = new FillCells();
        dueAll("clear", new int[] {x.clear(), x.type(1), x.type(2), x.clear(), x.told(3), x.clear(), x.reads()},
            0, 1, 2, 2, 0, 0, -10);
    }

    private static void readsFaults() {
        String[] texts = {"", "  ", "0", "0 ", "01", "01; 2", ";", "8", "a", "0;", "0 ;", "01;;", "0a;", "01a;", "#1;", ".",
            "001234567890;", "0 0123456789 0;", "0 0123456789x", "01;81;", "01\u000912;", "01;1/;", "01;1:;", "0-;", "01,"};
        int[] faults = {0, 2, 1, 2, 2, 5, 0, 0, 0, 1, 2, 3, 1, 2, 0, 0, 11, 13, 12, 3, 2, 4, 4, 1, 2};
        for (int i = 0; i < texts.length; i++) {
            FillCells x = new FillCells();
            due("reads '" + texts[i] + "'", reads(x, texts[i]), -10 - faults[i]);
            dueAll("nothing is done, nothing counts", new int[] {x.all(1), x.all(3), x.told(0), x.told(1), x.told(2),
                x.told(9), x.told(3)}, 0, 0, 0, 0, 0, 0, texts[i].length());
        }
        FillCells x = new FillCells();
        due("the longest text", reads(x, "0123456789.;".repeat(10)), 10);
        due("one byte too early", reads(x, "0123456789.;".repeat(9) + "0123456789."), -10 - 119);
        due("an 11th sign", reads(x, "0123456789.;".repeat(9) + "0123456789.."), -10 - 119);
        due("ends in a row at its longest", reads(x, "0123456789.;".repeat(9) + "012345678 9."), -10 - 120);
    }

    private static void readsRows() {
        FillCells x = new FillCells();
        due("reads", reads(x, " 7 1 2#. 9 ; 0.3;"), 2);
        dueAll("row 7", new int[] {x.of(70, 0), x.of(71, 0), x.of(72, 1), x.of(73, 0), x.of(74, 0), x.of(75, 0)},
            1, 2, 1, 0, 9, 0);
        dueAll("row 0", new int[] {x.of(0, 0), x.of(1, 0), x.told(9), x.told(3)}, 0, 3, 1, 17);
        due("again", x.reads(), 2);
        due("C though the same", x.told(9), 2);
        reads(x, "7#.5;");
        dueAll("shut, shapes stay", new int[] {x.of(70, 0), x.of(70, 1), x.of(71, 0), x.of(72, 0), x.of(72, 1)},
            1, 1, 2, 5, 0);
        due("a row twice", reads(x, "71;7.8;7..#;"), 3);
        dueAll("the later tells", new int[] {x.of(70, 0), x.of(70, 1), x.of(71, 0), x.of(72, 0), x.of(72, 1)},
            1, 0, 8, 5, 1);

        x = new FillCells();
        fill(x, 0, 5);
        fill(x, 1, 5);
        fill(x, 2, 5);
        x.sets(3, 3, 1);
        x.sets(79, 3, 1);
        fill(x, 79, 4);
        reads(x, "0 6#48;");
        dueAll("fill that is too much", new int[] {x.of(0, 4), x.of(1, 4), x.of(2, 4), x.of(3, 4), x.of(79, 4)},
            3, 0, 5, 1, 1);
        due("undo()", x.undo(), 7);
        dueAll("undone", new int[] {x.of(0, 4), x.of(1, 4), x.of(2, 4), x.of(3, 4), x.of(79, 4), x.all(1)},
            5, 5, 5, 4, 4, 0);
        reads(x, "0 9#;0 11;");
        dueAll("rows are what the whole text tells", new int[] {x.of(0, 4), x.of(1, 4), x.of(1, 1)}, 5, 5, 0);
        reads(x, "7 .........#;");
        dueAll("a twin shut", new int[] {x.of(3, 4), x.of(79, 4)}, 0, 0);
    }

    private static void told() {
        FillCells x = field(0, 3, 1, 4, 2, 5, 3, 6, 7, 2);
        x.sets(80, 0, 0);
        x.undo();
        x.undo();
        x.less(0);
        x.sets(0, 0, 1);
        for (int i = 0; i < 122; i++) {
            x.type(48);
        }
        int[] want = {1, 3, 2, 120, 3, 4, 5, 6, 2, 1};
        for (int i = 0; i < 10; i++) {
            due("told(" + i + ")", x.told(i), want[i]);
        }
        dueAll("wrong", new int[] {x.told(-1), x.told(10), x.told(0)}, BAD, BAD, 3);
    }

    private static void digest() {
        FillCells x = field(2, 7, 3, 31, 4, 5, 6, 8, 7, 1);
        reads(x, "0 12#;3 99999;");
        x.sets(31, 2, 2);
        x.sets(40, 3, 3);
        fill(x, 41, 2);
        x.more(-1);
        x.less(0);
        long h = 2081;
        int[] ahead = {1, 1, 0, 14, 2, 3, 7, 31, 1, 5, 5, 99, 8};
        for (int v : ahead) {
            h = 31 * h + v;
        }
        for (int v : cellsOf(x)) {
            h = 31 * h + v;
        }
        for (int v : new int[] {x.windows(1), x.windows(2), x.burden(1), x.burden(2), x.burden(3)}) {
            h = 31 * h + v;
        }
        due("digest()", x.digest(), h);
        due("digest() again", x.digest(), h);
        x.rules(3, 28);
        dueAll("what it tells of", new int[] {x.windows(1), x.windows(2), x.burden(2)}, 46, 2, 2);
        due("digest() with thick ones", x.digest() == h ? 1 : 0, 0);
    }

    public static void main(String[] args) {
        go("promise 1", PromiseTest::newObject);
        go("promise 2", PromiseTest::sets);
        go("promise 3", PromiseTest::draw);
        go("promise 4", PromiseTest::empties);
        go("promise 5", PromiseTest::rules);
        go("promise 6", PromiseTest::of);
        go("promise 6, MAY", PromiseTest::mayByCellAndWindow);
        go("promise 6, MAY by nets", PromiseTest::mayByNet);
        go("promise 7", PromiseTest::sum);
        go("promise 8", PromiseTest::windows);
        go("promise 9", PromiseTest::worst);
        go("promise 10", PromiseTest::order);
        go("promise 11", PromiseTest::turn);
        go("promise 12", PromiseTest::burden);
        go("promise 13", PromiseTest::all);
        go("promise 14", PromiseTest::more);
        go("promise 15", PromiseTest::less);
        go("promise 16", PromiseTest::next);
        go("promise 16, twins", PromiseTest::nextOfTwins);
        go("promise 17", PromiseTest::steps);
        go("promise 18", PromiseTest::thins);
        go("promise 19", PromiseTest::best);
        go("promise 20", PromiseTest::row);
        go("promise 21", PromiseTest::undo);
        go("promise 22", PromiseTest::type);
        go("promise 23", PromiseTest::clear);
        go("promise 24, faults", PromiseTest::readsFaults);
        go("promise 24", PromiseTest::readsRows);
        go("promise 25", PromiseTest::told);
        go("promise 26", PromiseTest::digest);
        end("PromiseTest");
    }
}
