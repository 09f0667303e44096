import java.util.ArrayDeque;
import java.util.ArrayList;
import java.util.Arrays;
import java.util.Deque;
import java.util.List;
import java.util.TreeMap;

/**
 * The document a second time, as slowly as it can be read: nothing is kept that follows from the cells,
 * fill is tried by putting it on a copy, and thinning goes one by one. ModelTest sets FillCells against it.
 */
final class PlainField {
    static final int NONE = -1, BAD = -2, NO = -3, FULL = -4;

    int[][] cells = new int[80][5]; // SHAPES, SHUT, NET, TWINS, FILL
    final int[] setting = {2, 3, 0, 720, 99, 99, 99, 0};
    final int[] refused = new int[3];
    final Deque<int[][]> past = new ArrayDeque<>();
    final StringBuilder text = new StringBuilder();

    private int refuse(int why) {
        refused[-2 - why]++;
        return why;
    }

    private static boolean out(int v, int least, int most) {
        return v < least || v > most;
    }

    private int[][] copy() {
        int[][] c = new int[80][];
        for (int i = 0; i < 80; i++) {
            c[i] = cells[i].clone();
        }
        return c;
    }

    private void change(int[][] before) {
        past.addLast(before);
        if (past.size() > 8) {
            past.removeFirst();
        }
    }

    private List<Integer> family(int cell) {
        List<Integer> f = new ArrayList<>();
        for (int i = 0; i < 80; i++) {
            if (i == cell || cells[cell][3] != 0 && cells[i][3] == cells[cell][3]) {
                f.add(i);
            }
        }
        return f;
    }

    private void settle() {
        for (int[] c : cells) {
            if (c[0] + c[4] > 9) {
                c[4] = 9 - c[0];
            }
            if (c[1] == 1) {
                c[4] = 0;
            }
        }
        for (int i = 0; i < 80; i++) {
            int least = 99;
            for (int j : family(i)) {
                least = Math.min(least, cells[j][4]);
            }
            for (int j : family(i)) {
                cells[j][4] = least;
            }
        }
    }

    private List<Integer> window(int at) {
        int r = at / 10, c = at % 10;
        if (r + setting[0] > 8 || c + setting[1] > 10) {
            return null;
        }
        List<Integer> w = new ArrayList<>();
        for (int i = r; i < r + setting[0]; i++) {
            for (int j = c; j < c + setting[1]; j++) {
                w.add(10 * i + j);
            }
        }
        return w;
    }

    private int windowSum(int at) {
        int s = 0;
        for (int i : window(at)) {
            s += cells[i][0] + cells[i][4];
        }
        return s;
    }

    private boolean thin(int at) {
        return window(at) != null && windowSum(at) < setting[2];
    }

    private boolean thick(int at) {
        return window(at) != null && windowSum(at) > setting[3];
    }

    private int thinWith(int cell) {
        int n = 0;
        for (int at = 0; at < 80; at++) {
            if (thin(at) && window(at).contains(cell)) {
                n++;
            }
        }
        return n;
    }

    private int load(int net) {
        int s = 0;
        for (int i = 0; i < 80; i++) {
            boolean beside = false;
            for (int j : new int[] {i - 10, i - 1, i + 1, i + 10}) {
                int far = Math.abs(i / 10 - j / 10) + Math.abs(i % 10 - j % 10);
                beside |= j >= 0 && j < 80 && far == 1 && cells[j][2] == net;
            }
            if (beside && cells[i][2] != net) {
                s += cells[i][4];
            }
        }
        return s;
    }

    private boolean may(int cell) {
        List<Integer> f = family(cell);
        for (int i : f) {
            if (cells[i][1] == 1 || cells[i][0] + cells[i][4] >= 9) {
                return false;
            }
        }
        int[] before = {0, load(1), load(2), load(3)};
        f.forEach(i -> cells[i][4]++);
        boolean ok = true;
        for (int at = 0; at < 80; at++) {
            if (thick(at)) {
                for (int i : f) {
                    ok &= !window(at).contains(i);
                }
            }
        }
        for (int net = 1; net <= 3; net++) {
            ok &= load(net) == before[net] || load(net) <= setting[3 + net];
        }
        f.forEach(i -> cells[i][4]--);
        return ok;
    }

    private int loadsWith(int cell) {
        List<Integer> f = family(cell);
        f.forEach(i -> cells[i][4]++);
        int s = load(1) + load(2) + load(3);
        f.forEach(i -> cells[i][4]--);
        return s;
    }

    private int choose(int rule) {
        List<Integer> wanted = new ArrayList<>();
        int home = NONE;
        for (int at = 0; at < 80; at++) {
            if (thin(at) && (home == NONE || windowSum(at) < windowSum(home))) {
                home = at;
            }
        }
        if (home == NONE) {
            return NONE;
        }
        boolean[] inThin = new boolean[80];
        for (int at = 0; at < 80; at++) {
            if (rule == 4 ? at == home : thin(at)) {
                window(at).forEach(i -> inThin[i] = true);
            }
        }
        for (int i = 0; i < 80; i++) {
            if (family(i).stream().anyMatch(j -> inThin[j]) && may(i)) {
                wanted.add(i);
            }
        }
        if (wanted.isEmpty()) {
            return NONE;
        }
        int[] key = new int[80];
        for (int i : wanted) {
            key[i] = rule == 1 ? cells[i][0] + cells[i][4] : rule == 2 ? -thinWith(i) : rule == 3 ? loadsWith(i) : 0;
        }
        wanted.sort((a, b) -> key[a] != key[b] ? Integer.compare(key[a], key[b]) : Integer.compare(a, b));
        return wanted.get(0);
    }

    private int stepOn(int rule, int n) {
        int done = 0;
        while (done < n) {
            int cell = choose(rule);
            if (cell == NONE) {
                break;
            }
            family(cell).forEach(i -> cells[i][4]++);
            done++;
        }
        return done;
    }

    private int thinOut() {
        int gone = 0;
        for (int cell = 79; cell >= 0; cell--) {
            List<Integer> f = family(cell);
            while (cells[cell][4] > 0) {
                boolean[] was = new boolean[80];
                for (int at = 0; at < 80; at++) {
                    was[at] = thin(at);
                }
                f.forEach(i -> cells[i][4]--);
                boolean bad = false;
                for (int at = 0; at < 80; at++) {
                    bad |= thin(at) && !was[at];
                }
                if (bad) {
                    f.forEach(i -> cells[i][4]++);
                    break;
                }
                gone += f.size();
            }
        }
        return gone;
    }

    private int total(int part) {
        return Arrays.stream(cells).mapToInt(c -> c[part]).sum();
    }

    private TreeMap<Integer, List<Integer>> bySums() {
        TreeMap<Integer, List<Integer>> m = new TreeMap<>();
        for (int at = 0; at < 80; at++) {
            if (window(at) != null) {
                m.computeIfAbsent(windowSum(at), k -> new ArrayList<>()).add(at);
            }
        }
        return m;
    }

    int sets(int cell, int what, int v) {
        if (out(cell, 0, 79) || out(what, 0, 3) || out(v, 0, new int[] {9, 1, 3, 3}[what])) {
            return refuse(BAD);
        }
        change(copy());
        int was = cells[cell][what];
        cells[cell][what] = v;
        settle();
        return was;
    }

    int draw(int seed, int v) {
        if (out(seed, 0, 999999) || out(v, 0, 9)) {
            return refuse(BAD);
        }
        change(copy());
        long x = seed;
        for (int[] c : cells) {
            x = (1103515245L * x + 12345) & 0x7fffffffL;
            c[0] = (int) ((x >> 16) % (v + 1));
            c[4] = 0;
        }
        return total(0);
    }

    int empties() {
        change(copy());
        int was = total(4);
        for (int[] c : cells) {
            c[4] = 0;
        }
        return was;
    }

    int rules(int what, int v) {
        int[] least = {1, 1, 0, 0, 0, 0, 0, 0}, most = {8, 10, 720, 720, 99, 99, 99, 4};
        if (out(what, 0, 7) || out(v, least[what], most[what])) {
            return refuse(BAD);
        }
        int was = setting[what];
        setting[what] = v;
        return was;
    }

    int of(int cell, int what) {
        if (out(cell, 0, 79) || out(what, 0, 6)) {
            return refuse(BAD);
        }
        return what < 5 ? cells[cell][what] : what == 6 ? thinWith(cell) : may(cell) ? 1 : 0;
    }

    int sum(int cell) {
        return out(cell, 0, 79) ? refuse(BAD) : window(cell) == null ? NONE : windowSum(cell);
    }

    int windows(int what) {
        if (out(what, 0, 3)) {
            return refuse(BAD);
        }
        int[] n = new int[4];
        for (int at = 0; at < 80; at++) {
            n[0] += window(at) != null ? 1 : 0;
            n[1] += thin(at) ? 1 : 0;
            n[2] += thick(at) ? 1 : 0;
        }
        n[3] = bySums().size();
        return n[what];
    }

    int worst(int what) {
        if (out(what, 0, 3)) {
            return refuse(BAD);
        }
        var e = what % 2 == 0 ? bySums().firstEntry() : bySums().lastEntry();
        return what < 2 ? e.getValue().get(0) : e.getKey();
    }

    int order(int k, int what) {
        if (k < 0 || out(what, 0, 1)) {
            return refuse(BAD);
        }
        List<Integer> sums = new ArrayList<>(bySums().keySet());
        return k >= sums.size() ? NONE : what == 0 ? sums.get(k) : bySums().get(sums.get(k)).size();
    }

    int turn(int k) {
        if (k < 0) {
            return refuse(BAD);
        }
        List<Integer> in = new ArrayList<>();
        bySums().values().forEach(in::addAll);
        return k >= in.size() ? NONE : in.get(k);
    }

    int burden(int net) {
        return out(net, 1, 3) ? refuse(BAD) : load(net);
    }

    int all(int what) {
        if (out(what, 0, 3)) {
            return refuse(BAD);
        }
        return what == 0 ? total(4) : what == 1 ? total(0) : what == 3 ? total(1)
            : (int) Arrays.stream(cells).filter(c -> c[4] > 0).count();
    }

    int more(int cell) {
        if (out(cell, 0, 79)) {
            return refuse(BAD);
        }
        if (!may(cell)) {
            return refuse(NO);
        }
        change(copy());
        family(cell).forEach(i -> cells[i][4]++);
        return cells[cell][4];
    }

    int less(int cell) {
        if (out(cell, 0, 79)) {
            return refuse(BAD);
        }
        if (cells[cell][4] == 0) {
            return refuse(NO);
        }
        change(copy());
        family(cell).forEach(i -> cells[i][4]--);
        return cells[cell][4];
    }

    int next() {
        return choose(setting[7]);
    }

    int steps(int n) {
        if (out(n, 1, 60)) {
            return refuse(BAD);
        }
        int[][] before = copy();
        int done = stepOn(setting[7], n);
        if (done > 0) {
            change(before);
        }
        return done;
    }

    int thins() {
        int[][] before = copy();
        int gone = thinOut();
        if (gone > 0) {
            change(before);
        }
        return gone;
    }

    int best(int what) {
        if (out(what, 0, 2)) {
            return refuse(BAD);
        }
        List<int[]> found = new ArrayList<>();
        int[][] before = copy();
        for (int rule = 0; rule <= 4; rule++) {
            stepOn(rule, 40);
            thinOut();
            found.add(new int[] {windows(1), total(4), rule});
            cells = before;
            before = copy();
        }
        found.sort(Arrays::compare);
        return found.get(0)[new int[] {2, 0, 1}[what]];
    }

    /** As differences of sums from the left: the longest way through all that they must at least be. */
    int row(int r, int s) {
        if (out(r, 0, 7) || out(s, 0, 90)) {
            return refuse(BAD);
        }
        int[] way = new int[11];
        Arrays.fill(way, -100000);
        way[0] = 0;
        int shapes = 0;
        boolean again = true;
        for (int round = 0; round < 40 && again; round++) {
            again = false;
            shapes = 0;
            for (int i = 0; i < 10; i++) {
                int[] c = cells[10 * r + i];
                shapes += c[0];
                again |= raise(way, i, i + 1, c[0]);
                again |= raise(way, i + 1, i, c[1] == 1 ? -c[0] : -9);
                if (i + setting[1] <= 10) {
                    again |= raise(way, i, i + setting[1], s);
                }
            }
        }
        return again ? NONE : way[10] - shapes;
    }

    private static boolean raise(int[] way, int from, int to, int by) {
        if (way[from] + by <= way[to]) {
            return false;
        }
        way[to] = way[from] + by;
        return true;
    }

    int undo() {
        if (past.isEmpty()) {
            return refuse(NO);
        }
        cells = past.removeLast();
        return past.size();
    }

    int type(int c) {
        if (out(c, 0, 127)) {
            return refuse(BAD);
        }
        if (text.length() == 120) {
            return refuse(FULL);
        }
        return text.append((char) c).length();
    }

    int clear() {
        int had = text.length();
        text.setLength(0);
        return had;
    }

    /** A text stands up to a place, if it can be gone on with to one that is whole. */
    int reads() {
        String begun = " *([0-7] *([0-9#.] *){1,10}; *)*([0-7] *([0-9#.] *){0,10})?";
        for (int i = 1; i <= text.length(); i++) {
            if (!text.substring(0, i).matches(begun)) {
                return -10 - (i - 1);
            }
        }
        String close = text.toString().replace(" ", "");
        if (!close.endsWith(";")) {
            return -10 - text.length();
        }
        change(copy());
        String[] rows = close.split(";");
        for (String row : rows) {
            for (int i = 1; i < row.length(); i++) {
                int[] c = cells[10 * (row.charAt(0) - '0') + i - 1];
                char sign = row.charAt(i);
                c[1] = sign == '#' ? 1 : sign == '.' ? c[1] : 0;
                c[0] = Character.isDigit(sign) ? sign - '0' : c[0];
            }
        }
        settle();
        return rows.length;
    }

    int told(int what) {
        if (out(what, 0, 9)) {
            return refuse(BAD);
        }
        return new int[] {refused[0], refused[1], refused[2], text.length(), setting[0], setting[1], setting[2],
            setting[3], setting[7], past.size()}[what];
    }

    long digest() {
        long h = 2081;
        for (int i = 0; i <= 9; i++) {
            h = 31 * h + told(i);
        }
        for (int i = 4; i <= 6; i++) {
            h = 31 * h + setting[i];
        }
        for (int[] c : cells) {
            for (int v : c) {
                h = 31 * h + v;
            }
        }
        h = 31 * (31 * h + windows(1)) + windows(2);
        for (int net = 1; net <= 3; net++) {
            h = 31 * h + load(net);
        }
        return h;
    }
}
