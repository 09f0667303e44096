import java.util.Arrays;

/** A field that has to be evenly full; ../shared/DOC.md says what each call promises. */
public final class FillCells {
    public static final int NONE = -1, BAD = -2, NO = -3, FULL = -4;

    private static final int ROWS = 8;
    private static final int COLUMNS = 10;
    private static final int CELLS = 80;
    /** Nets and twins are numbered 1 to 3; number 0 stands for none. */
    private static final int GROUPS = 4;
    private static final int TOP_SUM = 9;
    private static final int UNDOS = 8;
    private static final int TEXT_ROOM = 120;
    private static final int RULES = 5;
    private static final int TRIAL_STEPS = 40;
    private static final int LEAST_WINDOW_RULE = 4;

    private static final int SETTINGS = 8;
    private static final int HEIGHT = 0;
    private static final int WIDTH = 1;
    private static final int LOW = 2;
    private static final int HIGH = 3;
    private static final int RULE = 7;
    private static final int[] SETTING_FIRST = {2, 3, 0, 720, 99, 99, 99, 0};
    private static final int[] SETTING_LEAST = {1, 1, 0, 0, 0, 0, 0, 0};
    private static final int[] SETTING_MOST = {8, 10, 720, 720, 99, 99, 99, 4};
    private static final int[] PART_MOST = {9, 1, 3, 3};

    private final Filling filling = new Filling();
    private final History history = new History();
    private final Text text = new Text();
    private final int[] settings = new int[SETTINGS];
    private int bads = 0;
    private int noes = 0;
    private int fulls = 0;

    public FillCells() {
        for (int i = 0; i < SETTINGS; i++) {
            settings[i] = SETTING_FIRST[i];
        }
        useSettings();
    }

    // ---- the field

    public int sets(int cell, int what, int v) {
        if (!isCell(cell) || !isIn(what, 0, 3) || !isIn(v, 0, PART_MOST[what])) {
            return refuse(BAD);
        }
        history.note(filling.field);
        int[] part = filling.field.part(what);
        int was = part[cell];
        part[cell] = v;
        filling.field.settle();
        filling.measure();
        history.keep();
        return was;
    }

    public int draw(int seed, int v) {
        if (!isIn(seed, 0, 999999) || !isIn(v, 0, TOP_SUM)) {
            return refuse(BAD);
        }
        history.note(filling.field);
        filling.field.drawShapes(seed, v);
        Arrays.fill(filling.field.fill, 0);
        filling.measure();
        history.keep();
        return total(filling.field.shapes);
    }

    public int empties() {
        history.note(filling.field);
        int was = total(filling.field.fill);
        Arrays.fill(filling.field.fill, 0);
        filling.measure();
        history.keep();
        return was;
    }

    public int rules(int what, int v) {
        if (!isIn(what, 0, SETTINGS - 1) || !isIn(v, SETTING_LEAST[what], SETTING_MOST[what])) {
            return refuse(BAD);
        }
        int was = settings[what];
        settings[what] = v;
        useSettings();
        return was;
    }

    public int of(int cell, int what) {
        if (!isCell(cell) || !isIn(what, 0, 6)) {
            return refuse(BAD);
        }
        if (what == 5) {
            return filling.may(cell) ? 1 : 0;
        }
        if (what == 6) {
            return filling.windows.thinOver[cell];
        }
        return filling.field.part(what)[cell];
    }

    // ---- windows

    public int sum(int cell) {
        return isCell(cell) ? filling.windows.sums[cell] : refuse(BAD);
    }

    public int windows(int what) {
        switch (what) {
            case 0: return filling.windows.count();
            case 1: return filling.windows.countThin();
            case 2: return filling.windows.countThick();
            case 3: return filling.windows.countUnlike();
            default: return refuse(BAD);
        }
    }

    public int worst(int what) {
        switch (what) {
            case 0: return filling.windows.atLeast();
            case 1: return filling.windows.atGreatest();
            case 2: return filling.windows.sums[filling.windows.atLeast()];
            case 3: return filling.windows.sums[filling.windows.atGreatest()];
            default: return refuse(BAD);
        }
    }

    public int order(int k, int what) {
        if (k < 0 || !isIn(what, 0, 1)) {
            return refuse(BAD);
        }
        int found = filling.windows.unlikeSum(k);
        return what == 0 || found == NONE ? found : filling.windows.countOf(found);
    }

    public int turn(int k) {
        return k < 0 ? refuse(BAD) : filling.windows.rising(k);
    }

    public int burden(int net) {
        return isIn(net, 1, GROUPS - 1) ? filling.nets.burdens[net] : refuse(BAD);
    }

    public int all(int what) {
        switch (what) {
            case 0: return total(filling.field.fill);
            case 1: return total(filling.field.shapes);
            case 2: return filling.field.countFilled();
            case 3: return total(filling.field.shut);
            default: return refuse(BAD);
        }
    }

    // ---- filling

    public int more(int cell) {
        if (!isCell(cell)) {
            return refuse(BAD);
        }
        if (!filling.may(cell)) {
            return refuse(NO);
        }
        return changeFamily(cell, 1);
    }

    public int less(int cell) {
        if (!isCell(cell)) {
            return refuse(BAD);
        }
        if (filling.field.fill[cell] <= 0) {
            return refuse(NO);
        }
        return changeFamily(cell, -1);
    }

    public int next() {
        return filling.choice(settings[RULE]);
    }

    public int steps(int n) {
        if (!isIn(n, 1, 60)) {
            return refuse(BAD);
        }
        history.note(filling.field);
        int done = filling.stepOn(settings[RULE], n);
        if (done > 0) {
            history.keep();
        }
        return done;
    }

    public int thins() {
        history.note(filling.field);
        int gone = filling.thinOut();
        if (gone > 0) {
            history.keep();
        }
        return gone;
    }

    public int best(int what) {
        if (!isIn(what, 0, 2)) {
            return refuse(BAD);
        }
        filling.markFill();
        for (int rule = 0; rule < RULES; rule++) {
            filling.stepOn(rule, TRIAL_STEPS);
            filling.thinOut();
            filling.rate(rule);
            filling.layBack();
        }
        switch (what) {
            case 0: return filling.bestRule;
            case 1: return filling.bestThin;
            default: return filling.bestFill;
        }
    }

    public int row(int r, int s) {
        if (!isIn(r, 0, ROWS - 1) || !isIn(s, 0, 90)) {
            return refuse(BAD);
        }
        return filling.leastInRow(r, s);
    }

    public int undo() {
        if (history.kept == 0) {
            return refuse(NO);
        }
        history.takeBack(filling.field);
        filling.measure();
        return history.kept;
    }

    // ---- texts

    public int type(int c) {
        if (!isIn(c, 0, 127)) {
            return refuse(BAD);
        }
        if (text.length >= TEXT_ROOM) {
            return refuse(FULL);
        }
        text.append(c);
        return text.length;
    }

    public int clear() {
        int had = text.length;
        text.length = 0;
        return had;
    }

    public int reads() {
        int fault = text.fault();
        if (fault != NONE) {
            return -10 - fault;
        }
        history.note(filling.field);
        int rows = text.tell(filling.field);
        filling.field.settle();
        filling.measure();
        history.keep();
        return rows;
    }

    public int told(int what) {
        switch (what) {
            case 0: return bads;
            case 1: return noes;
            case 2: return fulls;
            case 3: return text.length;
            case 4: return settings[HEIGHT];
            case 5: return settings[WIDTH];
            case 6: return settings[LOW];
            case 7: return settings[HIGH];
            case 8: return settings[RULE];
            case 9: return history.kept;
            default: return refuse(BAD);
        }
    }

    public long digest() {
        long h = 2081;
        for (int what = 0; what <= 9; what++) {
            h = 31 * h + told(what);
        }
        for (int net = 1; net < GROUPS; net++) {
            h = 31 * h + filling.nets.limits[net];
        }
        for (int cell = 0; cell < CELLS; cell++) {
            for (int what = 0; what <= 4; what++) {
                h = 31 * h + filling.field.part(what)[cell];
            }
        }
        h = 31 * h + filling.windows.countThin();
        h = 31 * h + filling.windows.countThick();
        for (int net = 1; net < GROUPS; net++) {
            h = 31 * h + filling.nets.burdens[net];
        }
        return h;
    }

    // ---- helpers of the calls

    private int refuse(int why) {
        if (why == BAD) {
            bads++;
        } else if (why == NO) {
            noes++;
        } else {
            fulls++;
        }
        return why;
    }

    private int changeFamily(int cell, int by) {
        history.note(filling.field);
        filling.change(cell, by);
        history.keep();
        return filling.field.fill[cell];
    }

    private void useSettings() {
        Windows windows = filling.windows;
        windows.height = settings[HEIGHT];
        windows.width = settings[WIDTH];
        windows.low = settings[LOW];
        windows.high = settings[HIGH];
        for (int net = 1; net < GROUPS; net++) {
            filling.nets.limits[net] = settings[HIGH + net];
        }
        filling.measure();
    }

    private static boolean isIn(int v, int least, int most) {
        return v >= least && v <= most;
    }

    private static boolean isCell(int cell) {
        return isIn(cell, 0, CELLS - 1);
    }

    private static int total(int[] values) {
        int together = 0;
        for (int v : values) {
            together += v;
        }
        return together;
    }

    /** What is told of the cells, and nothing that only follows from it. */
    private static final class Field {
        final int[] shapes = new int[CELLS];
        final int[] shut = new int[CELLS];
        final int[] net = new int[CELLS];
        final int[] twins = new int[CELLS];
        final int[] fill = new int[CELLS];

        int[] part(int what) {
            switch (what) {
                case 0: return shapes;
                case 1: return shut;
                case 2: return net;
                case 3: return twins;
                default: return fill;
            }
        }

        int sumOf(int cell) {
            return shapes[cell] + fill[cell];
        }

        /** The most fill that a cell by itself can have. */
        int room(int cell) {
            return shut[cell] != 0 ? 0 : TOP_SUM - shapes[cell];
        }

        int countFilled() {
            int filled = 0;
            for (int cell = 0; cell < CELLS; cell++) {
                if (fill[cell] > 0) {
                    filled++;
                }
            }
            return filled;
        }

        void drawShapes(int seed, int v) {
            int kinds = Math.max(v, 0) + 1;
            long x = seed;
            for (int cell = 0; cell < CELLS; cell++) {
                x = (x * 1103515245L + 12345L) % 2147483648L;
                shapes[cell] = (int) (x / 65536L % kinds);
            }
        }

        /** Takes away fill that is too much; twins come after, since one of them may just have lost some. */
        void settle() {
            for (int cell = 0; cell < CELLS; cell++) {
                fill[cell] = Math.min(fill[cell], room(cell));
            }
            for (int group = 1; group < GROUPS; group++) {
                makeAlike(group);
            }
        }

        private void makeAlike(int group) {
            int least = TOP_SUM;
            for (int cell = 0; cell < CELLS; cell++) {
                if (twins[cell] == group) {
                    least = Math.min(least, fill[cell]);
                }
            }
            for (int cell = 0; cell < CELLS; cell++) {
                if (twins[cell] == group) {
                    fill[cell] = least;
                }
            }
        }

        /** One number for all of a cell, so that a change to be undone takes little room. */
        int packed(int cell) {
            return shapes[cell] | fill[cell] << 4 | shut[cell] << 8 | net[cell] << 9 | twins[cell] << 11;
        }

        void unpack(int cell, int code) {
            shapes[cell] = code & 15;
            fill[cell] = code >> 4 & 15;
            shut[cell] = code >> 8 & 1;
            net[cell] = code >> 9 & 3;
            twins[cell] = code >> 11 & 3;
        }
    }

    /** The sums of all windows, kept in step with the field. */
    private static final class Windows {
        int height = 1;
        int width = 1;
        int low = 0;
        int high = 0;
        /** By upper left cells; NONE where no window lies. */
        final int[] sums = new int[CELLS];
        /** How many thin windows have a cell. */
        final int[] thinOver = new int[CELLS];
        /** How many windows have a cell that are thick with 1 more. */
        final int[] fullOver = new int[CELLS];
        /** How many cells of twins a window has, by CELLS * twins + window. */
        final int[] shares = new int[GROUPS * CELLS];

        boolean lies(int at) {
            return at / COLUMNS + height <= ROWS && at % COLUMNS + width <= COLUMNS;
        }

        boolean has(int at, int cell) {
            int down = cell / COLUMNS - at / COLUMNS;
            int right = cell % COLUMNS - at % COLUMNS;
            return down >= 0 && down < height && right >= 0 && right < width;
        }

        /** How many cells a window has of the family of a cell that is of these twins. */
        int share(int at, int cell, int group) {
            if (group == 0) {
                return has(at, cell) ? 1 : 0;
            }
            return shares[CELLS * group + at];
        }

        boolean isThin(int at) {
            return sums[at] != NONE && sums[at] < low;
        }

        private boolean isFull(int at) {
            return sums[at] != NONE && sums[at] >= high;
        }

        void measure(Field field) {
            Arrays.fill(thinOver, 0);
            Arrays.fill(fullOver, 0);
            Arrays.fill(shares, 0);
            for (int at = 0; at < CELLS; at++) {
                sums[at] = NONE;
                if (lies(at)) {
                    addUp(field, at);
                }
                if (isThin(at)) {
                    spread(thinOver, at, 1);
                }
                if (isFull(at)) {
                    spread(fullOver, at, 1);
                }
            }
        }

        private void addUp(Field field, int at) {
            int together = 0;
            for (int down = 0; down < height; down++) {
                for (int right = 0; right < width; right++) {
                    int cell = at + COLUMNS * down + right;
                    together += field.sumOf(cell);
                    shares[CELLS * field.twins[cell] + at]++;
                }
            }
            sums[at] = together;
        }

        private void spread(int[] counts, int at, int by) {
            for (int down = 0; down < height; down++) {
                for (int right = 0; right < width; right++) {
                    counts[at + COLUMNS * down + right] += by;
                }
            }
        }

        /** A cell's sum has become another: only the windows that have it are looked at. */
        void shift(int cell, int by) {
            int row = cell / COLUMNS;
            int column = cell % COLUMNS;
            int lastTop = Math.min(row, ROWS - height);
            int lastLeft = Math.min(column, COLUMNS - width);
            for (int top = Math.max(0, row - height + 1); top <= lastTop; top++) {
                for (int left = Math.max(0, column - width + 1); left <= lastLeft; left++) {
                    shiftOne(COLUMNS * top + left, by);
                }
            }
        }

        private void shiftOne(int at, int by) {
            boolean wasThin = isThin(at);
            boolean wasFull = isFull(at);
            sums[at] += by;
            if (wasThin != isThin(at)) {
                spread(thinOver, at, wasThin ? -1 : 1);
            }
            if (wasFull != isFull(at)) {
                spread(fullOver, at, wasFull ? -1 : 1);
            }
        }

        /** Whether no window becomes, or stays, thick by 1 more for each of the twins that it has. */
        boolean bearTwins(int group) {
            for (int at = 0; at < CELLS; at++) {
                int share = shares[CELLS * group + at];
                if (share > 0 && sums[at] + share > high) {
                    return false;
                }
            }
            return true;
        }

        /** How much each of a cell's family can lose before a window becomes thin that is not. */
        int slack(int cell, int group) {
            int least = TOP_SUM;
            for (int at = 0; at < CELLS; at++) {
                if (sums[at] != NONE && sums[at] >= low) {
                    int share = share(at, cell, group);
                    if (share > 0) {
                        least = Math.min(least, (sums[at] - low) / share);
                    }
                }
            }
            return least;
        }

        int count() {
            return (ROWS - height + 1) * (COLUMNS - width + 1);
        }

        int countThin() {
            int found = 0;
            for (int at = 0; at < CELLS; at++) {
                if (isThin(at)) {
                    found++;
                }
            }
            return found;
        }

        int countThick() {
            int found = 0;
            for (int at = 0; at < CELLS; at++) {
                if (sums[at] > high) {
                    found++;
                }
            }
            return found;
        }

        int countOf(int wanted) {
            int found = 0;
            for (int at = 0; at < CELLS; at++) {
                if (sums[at] == wanted) {
                    found++;
                }
            }
            return found;
        }

        /** The least sum above another one, or NONE; above NONE itself it is the least of all. */
        private int sumAbove(int other) {
            int least = NONE;
            for (int at = 0; at < CELLS; at++) {
                if (sums[at] > other && (least == NONE || sums[at] < least)) {
                    least = sums[at];
                }
            }
            return least;
        }

        int countUnlike() {
            int found = 0;
            int reached = sumAbove(NONE);
            while (found < CELLS && reached != NONE) {
                found++;
                reached = sumAbove(reached);
            }
            return found;
        }

        int unlikeSum(int k) {
            if (k >= CELLS) {
                return NONE;
            }
            int reached = sumAbove(NONE);
            for (int i = 0; i < k && reached != NONE; i++) {
                reached = sumAbove(reached);
            }
            return reached;
        }

        /** The k-th window by rising sums: whole lots of like sums are passed over first. */
        int rising(int k) {
            int left = k;
            int reached = sumAbove(NONE);
            for (int i = 0; i < CELLS && reached != NONE; i++) {
                int like = countOf(reached);
                if (left < like) {
                    return likeOne(reached, left);
                }
                left -= like;
                reached = sumAbove(reached);
            }
            return NONE;
        }

        private int likeOne(int wanted, int k) {
            int left = k;
            for (int at = 0; at < CELLS; at++) {
                if (sums[at] == wanted) {
                    if (left == 0) {
                        return at;
                    }
                    left--;
                }
            }
            return NONE;
        }

        /** A window always lies at cell 0, so both ends can begin there. */
        int atLeast() {
            int found = 0;
            for (int at = 1; at < CELLS; at++) {
                if (sums[at] != NONE && sums[at] < sums[found]) {
                    found = at;
                }
            }
            return found;
        }

        int atGreatest() {
            int found = 0;
            for (int at = 1; at < CELLS; at++) {
                if (sums[at] > sums[found]) {
                    found = at;
                }
            }
            return found;
        }
    }

    /** The burdens of the nets, kept in step with the field. */
    private static final class Nets {
        final int[] limits = new int[GROUPS];
        final int[] burdens = new int[GROUPS];
        /** Bit n: fill of the cell is a burden of net n. */
        final int[] borne = new int[CELLS];
        /** How many cells of twins are a burden of a net, by GROUPS * twins + net. */
        final int[] twinsBorne = new int[GROUPS * GROUPS];

        void measure(Field field) {
            Arrays.fill(burdens, 0);
            Arrays.fill(twinsBorne, 0);
            for (int cell = 0; cell < CELLS; cell++) {
                int own = 1 << field.net[cell];
                borne[cell] = netsBeside(field, cell) & ~own & ~1;
                for (int net = 1; net < GROUPS; net++) {
                    twinsBorne[GROUPS * field.twins[cell] + net] += borne[cell] >> net & 1;
                }
                shift(cell, field.fill[cell]);
            }
        }

        private static int netsBeside(Field field, int cell) {
            int column = cell % COLUMNS;
            int nets = 0;
            if (cell >= COLUMNS) {
                nets |= 1 << field.net[cell - COLUMNS];
            }
            if (cell + COLUMNS < CELLS) {
                nets |= 1 << field.net[cell + COLUMNS];
            }
            if (column > 0) {
                nets |= 1 << field.net[cell - 1];
            }
            if (column + 1 < COLUMNS) {
                nets |= 1 << field.net[cell + 1];
            }
            return nets;
        }

        void shift(int cell, int by) {
            if (borne[cell] != 0) {
                for (int net = 1; net < GROUPS; net++) {
                    burdens[net] += by * (borne[cell] >> net & 1);
                }
            }
        }

        /** How much more a net bears by 1 more for the family of a cell that is of these twins. */
        private int gain(int cell, int group, int net) {
            return group == 0 ? borne[cell] >> net & 1 : twinsBorne[GROUPS * group + net];
        }

        int gainOfAll(int cell, int group) {
            int together = 0;
            for (int net = 1; net < GROUPS; net++) {
                together += gain(cell, group, net);
            }
            return together;
        }

        boolean bear(int cell, int group) {
            for (int net = 1; net < GROUPS; net++) {
                int gain = gain(cell, group, net);
                if (gain > 0 && burdens[net] + gain > limits[net]) {
                    return false;
                }
            }
            return true;
        }
    }

    /** The field with what follows from it, and all that puts fill in or takes it out. */
    private static final class Filling {
        final Field field = new Field();
        final Windows windows = new Windows();
        final Nets nets = new Nets();
        int bestRule = 0;
        int bestThin = 0;
        int bestFill = 0;
        /** Of twins, as the last choice found them: asked once for all of them, not once a cell. */
        private final boolean[] twinsChosen = new boolean[GROUPS];
        private final int[] fillAhead = new int[CELLS];
        private final int[] line = new int[COLUMNS];

        void measure() {
            windows.measure(field);
            nets.measure(field);
        }

        boolean may(int cell) {
            int group = field.twins[cell];
            return group == 0 ? loneMay(cell) : twinsMay(group, cell);
        }

        private boolean loneMay(int cell) {
            return field.fill[cell] < field.room(cell) && windows.fullOver[cell] == 0 && nets.bear(cell, 0);
        }

        private boolean twinsMay(int group, int one) {
            for (int cell = 0; cell < CELLS; cell++) {
                if (field.twins[cell] == group && field.fill[cell] >= field.room(cell)) {
                    return false;
                }
            }
            return windows.bearTwins(group) && nets.bear(one, group);
        }

        /** The cell that a step fills by a rule, or NONE. */
        int choice(int rule) {
            int home = NONE;
            if (rule == LEAST_WINDOW_RULE) {
                home = windows.atLeast();
                if (!windows.isThin(home)) {
                    return NONE;
                }
            }
            chooseTwins(home);
            int found = NONE;
            int foundRank = 0;
            for (int cell = 0; cell < CELLS; cell++) {
                if (isChosen(cell, home)) {
                    int rank = rank(rule, cell);
                    if (found == NONE || rank < foundRank) {
                        found = cell;
                        foundRank = rank;
                    }
                }
            }
            return found;
        }

        /** Which twins are wanted by a thin window (by the one at home, if there is one) and may have more. */
        private void chooseTwins(int home) {
            for (int group = 1; group < GROUPS; group++) {
                int one = wantedTwin(group, home);
                twinsChosen[group] = one != NONE && twinsMay(group, one);
            }
        }

        private int wantedTwin(int group, int home) {
            for (int cell = 0; cell < CELLS; cell++) {
                if (field.twins[cell] == group && isWanted(cell, home)) {
                    return cell;
                }
            }
            return NONE;
        }

        private boolean isWanted(int cell, int home) {
            return home == NONE ? windows.thinOver[cell] > 0 : windows.has(home, cell);
        }

        private boolean isChosen(int cell, int home) {
            int group = field.twins[cell];
            return group == 0 ? isWanted(cell, home) && loneMay(cell) : twinsChosen[group];
        }

        /** The less, the earlier; cells of one rank come by their numbers. */
        private int rank(int rule, int cell) {
            switch (rule) {
                case 1: return field.sumOf(cell);
                case 2: return -windows.thinOver[cell];
                case 3: return nets.gainOfAll(cell, field.twins[cell]);
                default: return 0;
            }
        }

        /** The fill of a cell and its family becomes another. */
        void change(int cell, int by) {
            int group = field.twins[cell];
            for (int one = 0; one < CELLS; one++) {
                if (one == cell || group != 0 && field.twins[one] == group) {
                    field.fill[one] += by;
                    windows.shift(one, by);
                    nets.shift(one, by);
                }
            }
        }

        int stepOn(int rule, int most) {
            for (int done = 0; done < most; done++) {
                int cell = choice(rule);
                if (cell == NONE) {
                    return done;
                }
                change(cell, 1);
            }
            return most;
        }

        /** Windows that are thin stay so, the others hold: so all that a cell loses can go at once. */
        int thinOut() {
            int ahead = total(field.fill);
            for (int cell = CELLS - 1; cell >= 0; cell--) {
                if (field.fill[cell] > 0) {
                    int loss = Math.min(field.fill[cell], windows.slack(cell, field.twins[cell]));
                    if (loss > 0) {
                        change(cell, -loss);
                    }
                }
            }
            return ahead - total(field.fill);
        }

        /** Rules are tried on the field itself, so its fill is marked ahead and laid back after each. */
        void markFill() {
            System.arraycopy(field.fill, 0, fillAhead, 0, CELLS);
        }

        void layBack() {
            System.arraycopy(fillAhead, 0, field.fill, 0, CELLS);
            measure();
        }

        /** Rules are rated from 0 on, so of like ones the least stays the best. */
        void rate(int rule) {
            int thin = windows.countThin();
            int fill = total(field.fill);
            if (rule == 0 || thin < bestThin || thin == bestThin && fill < bestFill) {
                bestRule = rule;
                bestThin = thin;
                bestFill = fill;
            }
        }

        /** What a stretch lacks goes as far right as it can: there it serves the most stretches to come. */
        int leastInRow(int row, int wanted) {
            System.arraycopy(field.shapes, COLUMNS * row, line, 0, COLUMNS);
            int put = 0;
            for (int end = windows.width - 1; end < COLUMNS; end++) {
                int lack = wanted - stretch(end);
                for (int column = end; column > end - windows.width && lack > 0; column--) {
                    int room = field.shut[COLUMNS * row + column] != 0 ? 0 : TOP_SUM - line[column];
                    int part = Math.min(room, lack);
                    line[column] += part;
                    lack -= part;
                    put += part;
                }
                if (lack > 0) {
                    return NONE;
                }
            }
            return put;
        }

        private int stretch(int end) {
            int together = 0;
            for (int column = end; column > end - windows.width; column--) {
                together += line[column];
            }
            return together;
        }
    }

    /** Fields as they were ahead of the last changes; one place more than can be undone, for one not yet kept. */
    private static final class History {
        private static final int PLACES = UNDOS + 1;
        int kept = 0;
        private int oldest = 0;
        private final int[] fields = new int[PLACES * CELLS];

        /** A change may turn out to be none, so what is noted only counts when it is kept. */
        void note(Field field) {
            int from = start(kept);
            for (int cell = 0; cell < CELLS; cell++) {
                fields[from + cell] = field.packed(cell);
            }
        }

        void keep() {
            if (kept < UNDOS) {
                kept++;
            } else {
                oldest = (oldest + 1) % PLACES;
            }
        }

        void takeBack(Field field) {
            if (kept > 0) {
                kept--;
                int from = start(kept);
                for (int cell = 0; cell < CELLS; cell++) {
                    field.unpack(cell, fields[from + cell]);
                }
            }
        }

        private int start(int age) {
            return (oldest + age) % PLACES * CELLS;
        }
    }

    /** The text that tells rows. */
    private static final class Text {
        private static final int BLANK = 32;
        int length = 0;
        private final int[] bytes = new int[TEXT_ROOM];

        void append(int c) {
            if (length < TEXT_ROOM) {
                bytes[length] = c;
                length++;
            }
        }

        /** The place of the first byte that can not stand there, or NONE. */
        int fault() {
            boolean inRow = false;
            int rows = 0;
            int signs = 0;
            for (int i = 0; i < length; i++) {
                int c = bytes[i];
                if (c == BLANK) {
                    continue;
                }
                if (!inRow) {
                    if (c < '0' || c > '7') {
                        return i;
                    }
                    inRow = true;
                    signs = 0;
                } else if (c == ';' && signs > 0) {
                    inRow = false;
                    rows++;
                } else if (isSign(c) && signs < COLUMNS) {
                    signs++;
                } else {
                    return i;
                }
            }
            return inRow || rows == 0 ? length : NONE;
        }

        private static boolean isSign(int c) {
            return c >= '0' && c <= '9' || c == '#' || c == '.';
        }

        /** Makes the cells what a text without fault tells, and answers how many rows that are. */
        int tell(Field field) {
            int rows = 0;
            int cell = NONE;
            for (int i = 0; i < length; i++) {
                int c = bytes[i];
                if (c == BLANK) {
                    continue;
                }
                if (c == ';') {
                    rows++;
                    cell = NONE;
                } else if (cell == NONE) {
                    cell = COLUMNS * (c - '0');
                } else {
                    tellCell(field, cell, c);
                    cell++;
                }
            }
            return rows;
        }

        private static void tellCell(Field field, int cell, int c) {
            if (!isCell(cell) || c == '.') {
                return;
            }
            if (c == '#') {
                field.shut[cell] = 1;
            } else {
                field.shut[cell] = 0;
                field.shapes[cell] = c - '0';
            }
        }
    }
}
