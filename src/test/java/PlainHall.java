import java.util.ArrayDeque;
import java.util.ArrayList;
import java.util.Arrays;
import java.util.HashSet;
import java.util.List;
import java.util.Set;
import java.util.TreeSet;

/**
 * The document once more, written as slowly and plainly as it reads, with lists and
 * sets in place of bits: what HallCarrier answers is compared with it.
 */
final class PlainHall {
    private static final int BAD = -1, STATE = -2, FULL = -3, NONE = -9;
    private static final int[] DX = {0, 1, 0, -1};
    private static final int[] DY = {-1, 0, 1, 0};

    private static final class Body {
        int cell;
        int number;
        int[] saw = new int[64];

        Body(int cell, int number) {
            this.cell = cell;
            this.number = number;
            Arrays.fill(saw, -1);
        }

        Body copy() {
            Body b = new Body(cell, number);
            b.saw = saw.clone();
            return b;
        }
    }

    private static final class World {
        List<Body> people = new ArrayList<>();
        List<Body> carriers = new ArrayList<>();
        List<int[]> lines = new ArrayList<>();
        int tick;

        World copy() {
            World w = new World();
            for (Body b : people) {
                w.people.add(b.copy());
            }
            for (Body b : carriers) {
                w.carriers.add(b.copy());
            }
            w.lines.addAll(lines);
            w.tick = tick;
            return w;
        }
    }

    private String text = "";
    private String[] rows = {"..", ".."};
    private Set<Integer> open = new TreeSet<>();
    private World world = new World();
    private World[] images = new World[2];
    private List<int[]> orders = new ArrayList<>();
    private Set<Integer> maybe = new TreeSet<>();
    private long traced;

    PlainHall() {
        maybe = freeCells();
    }

    // ---- helpers

    private boolean has(int cell) {
        return cell >= 0 && cell / 8 < rows.length && cell % 8 < rows[0].length();
    }

    private boolean has(int x, int y) {
        return x >= 0 && y >= 0 && y < rows.length && x < rows[0].length();
    }

    private char signAt(int cell) {
        return rows[cell / 8].charAt(cell % 8);
    }

    private boolean free(int cell) {
        char c = signAt(cell);
        return c == 'D' ? open.contains(cell) : c != '#';
    }

    /** The cell beside another one if it is free, or -1. */
    private int freeBeside(int cell, int d) {
        int x = cell % 8 + DX[d];
        int y = cell / 8 + DY[d];
        return has(x, y) && free(8 * y + x) ? 8 * y + x : -1;
    }

    private Set<Integer> freeCells() {
        Set<Integer> all = new TreeSet<>();
        for (int cell = 0; cell < 64; cell++) {
            if (has(cell) && free(cell)) {
                all.add(cell);
            }
        }
        return all;
    }

    private List<Integer> doorCells() {
        List<Integer> all = new ArrayList<>();
        for (int cell = 0; cell < 64; cell++) {
            if (has(cell) && signAt(cell) == 'D') {
                all.add(cell);
            }
        }
        return all;
    }

    private static long bits(Set<Integer> set) {
        long v = 0;
        for (int cell : set) {
            v |= 1L << cell;
        }
        return v;
    }

    private boolean isSeen(int from, int cell) {
        int fx = from % 8, fy = from / 8, cx = cell % 8, cy = cell / 8;
        if (Math.abs(fx - cx) <= 1 && Math.abs(fy - cy) <= 1) {
            return true;
        }
        if (fx != cx && fy != cy) {
            return false;
        }
        for (int between = 0; between < 64; between++) {
            int bx = between % 8, by = between / 8;
            boolean onLine = fx == cx
                ? bx == fx && by > Math.min(fy, cy) && by < Math.max(fy, cy)
                : by == fy && bx > Math.min(fx, cx) && bx < Math.max(fx, cx);
            if (onLine && !free(between)) {
                return false;
            }
        }
        return true;
    }

    private Set<Integer> seen(int from) {
        Set<Integer> all = new TreeSet<>();
        for (int cell = 0; cell < 64; cell++) {
            if (has(cell) && isSeen(from, cell)) {
                all.add(cell);
            }
        }
        return all;
    }

    private static int apart(int a, int b) {
        return Math.abs(a % 8 - b % 8) + Math.abs(a / 8 - b / 8);
    }

    private boolean nearsSome(int from, int to) {
        for (Body c : world.carriers) {
            if (apart(to, c.cell) < apart(from, c.cell)) {
                return true;
            }
        }
        return false;
    }

    private Set<Integer> oneGo(Set<Integer> from, boolean blocks) {
        Set<Integer> to = new TreeSet<>(from);
        for (int cell : from) {
            for (int d = 0; d < 4; d++) {
                int there = freeBeside(cell, d);
                if (there >= 0 && (!blocks || nearsSome(cell, there))) {
                    to.add(there);
                }
            }
        }
        return to;
    }

    private Set<Integer> couldBe(int kind, int cell, int ticks) {
        Set<Integer> set = new TreeSet<>();
        set.add(cell);
        for (int t = 0; t < ticks && kind != 0; t++) {
            set = oneGo(set, kind == 3);
            if (kind == 2) {
                set = oneGo(set, false);
            }
        }
        return set;
    }

    private Set<Integer> seenPeopleCould(int carrier, int ticks) {
        Set<Integer> all = new TreeSet<>();
        for (Body p : world.people) {
            if (isSeen(world.carriers.get(carrier).cell, p.cell)) {
                all.addAll(couldBe(p.number, p.cell, ticks));
            }
        }
        return all;
    }

    private Set<Integer> anybodyCould(int carrier, int ticks) {
        Set<Integer> all = seenPeopleCould(carrier, ticks);
        for (int cell : freeCells()) {
            if (!isSeen(world.carriers.get(carrier).cell, cell)) {
                all.addAll(couldBe(1, cell, ticks));
            }
        }
        return all;
    }

    private boolean carrierOn(int cell) {
        for (Body c : world.carriers) {
            if (c.cell == cell) {
                return true;
            }
        }
        return false;
    }

    private static boolean somebodyOn(World w, int cell) {
        for (Body b : w.people) {
            if (b.cell == cell) {
                return true;
            }
        }
        for (Body b : w.carriers) {
            if (b.cell == cell) {
                return true;
            }
        }
        return false;
    }

    private int why(int carrier, int move) {
        if (move == 4) {
            return 0;
        }
        int there = freeBeside(world.carriers.get(carrier).cell, move);
        if (there < 0) {
            return 1;
        }
        if (carrierOn(there)) {
            return 2;
        }
        if (seenPeopleCould(carrier, 1).contains(there)) {
            return 3;
        }
        return anybodyCould(carrier, 1).contains(there) ? 4 : 0;
    }

    private void see(Body c) {
        for (int cell : seen(c.cell)) {
            c.saw[cell] = world.tick;
        }
    }

    private boolean person(int i) {
        return i >= 0 && i < world.people.size();
    }

    private boolean isCarrier(int i) {
        return i >= 0 && i < world.carriers.size();
    }

    // ---- the hall

    int type(long v, int n) {
        if (n < 1 || n > 8) {
            return BAD;
        }
        if (text.length() + n > 80) {
            return FULL;
        }
        for (int k = n; k > 0; k--) {
            text += (char) (v >> 8 * (k - 1) & 0xFF);
        }
        return text.length();
    }

    int clear() {
        int n = text.length();
        text = "";
        return n;
    }

    private static boolean canBegin(String s) {
        String[] r = s.split("/", -1);
        if (r.length > 8 || r[0].length() > 8 || r.length > 1 && r[0].length() < 2) {
            return false;
        }
        for (int i = 1; i < r.length; i++) {
            boolean last = i == r.length - 1;
            if (r[i].length() > r[0].length() || !last && r[i].length() < r[0].length()) {
                return false;
            }
        }
        int doors = 0;
        Set<Character> marks = new HashSet<>();
        for (char c : s.toCharArray()) {
            if (".#D123456789/".indexOf(c) < 0) {
                return false;
            }
            doors += c == 'D' ? 1 : 0;
            if (Character.isDigit(c) && !marks.add(c)) {
                return false;
            }
        }
        return doors <= 8;
    }

    int hall() {
        for (int i = 0; i < text.length(); i++) {
            if (!canBegin(text.substring(0, i + 1))) {
                return -10 - i;
            }
        }
        String[] r = text.split("/", -1);
        if (r.length < 2 || r[r.length - 1].length() < r[0].length()) {
            return -10 - text.length();
        }
        rows = r;
        text = "";
        open.clear();
        world = new World();
        images = new World[2];
        orders.clear();
        maybe = freeCells();
        return rows.length * rows[0].length();
    }

    int sign(int cell) {
        return has(cell) ? signAt(cell) : BAD;
    }

    int door(int i, int state) {
        List<Integer> doors = doorCells();
        if (i < 0 || i >= doors.size() || state != 0 && state != 1) {
            return BAD;
        }
        int cell = doors.get(i);
        if (state == 0) {
            boolean end = false;
            for (int[] o : orders) {
                end |= o[0] == cell || o[1] == cell;
            }
            if (end || somebodyOn(world, cell)) {
                return STATE;
            }
        }
        int was = open.contains(cell) ? 1 : 0;
        if (state == 1) {
            open.add(cell);
        } else {
            open.remove(cell);
        }
        maybe = freeCells();
        return was;
    }

    long sees(int cell) {
        return has(cell) ? bits(seen(cell)) : BAD;
    }

    // ---- people, carriers

    int person(int kind, int cell) {
        if (kind < 0 || kind > 3 || !has(cell)) {
            return BAD;
        }
        if (!free(cell)) {
            return STATE;
        }
        if (world.people.size() == 6) {
            return FULL;
        }
        world.people.add(new Body(cell, kind));
        return world.people.size() - 1;
    }

    int carrier(int cell, int load) {
        if (!has(cell) || load < 0 || load > 9) {
            return BAD;
        }
        if (!free(cell) || carrierOn(cell)) {
            return STATE;
        }
        if (world.carriers.size() == 2) {
            return FULL;
        }
        Body c = new Body(cell, load);
        world.carriers.add(c);
        see(c);
        return world.carriers.size() - 1;
    }

    int at(int i, int what) {
        if (what == 0 || what == 2) {
            return !person(i) ? BAD : what == 0 ? world.people.get(i).cell : world.people.get(i).number;
        }
        if (what == 1 || what == 3) {
            return !isCarrier(i) ? BAD : what == 1 ? world.carriers.get(i).cell : world.carriers.get(i).number;
        }
        return BAD;
    }

    long could(int i, int ticks) {
        if (!person(i) || ticks < 0 || ticks > 20) {
            return BAD;
        }
        return bits(couldBe(world.people.get(i).number, world.people.get(i).cell, ticks));
    }

    long anybody(int i, int ticks) {
        return !isCarrier(i) || ticks < 0 || ticks > 20 ? BAD : bits(anybodyCould(i, ticks));
    }

    int let(int i) {
        if (!isCarrier(i)) {
            return BAD;
        }
        Set<Integer> danger = anybodyCould(i, 1);
        int moves = 16;
        for (int d = 0; d < 4; d++) {
            int there = freeBeside(world.carriers.get(i).cell, d);
            if (there >= 0 && !carrierOn(there) && !danger.contains(there)) {
                moves += 1 << d;
            }
        }
        return moves;
    }

    /** From each cell, whether a row of just so many moves more leads to the goal: backwards from it. */
    int soonest(int i, int goal, int what) {
        if (!isCarrier(i) || !has(goal) || what != 0 && what != 1) {
            return BAD;
        }
        if (!free(goal)) {
            return STATE;
        }
        int start = world.carriers.get(i).cell;
        if (start == goal) {
            return what == 0 ? 0 : NONE;
        }
        List<Set<Integer>> barred = new ArrayList<>();
        for (int t = 0; t <= 20; t++) {
            Set<Integer> bar = new HashSet<>(anybodyCould(i, t));
            for (int c = 0; c < world.carriers.size(); c++) {
                if (c != i) {
                    bar.add(world.carriers.get(c).cell);
                }
            }
            barred.add(bar);
        }
        for (int all = 1; all <= 20; all++) {
            boolean[] leads = new boolean[64];
            leads[goal] = true;
            for (int t = all; t > 1; t--) {
                boolean[] before = leads.clone();
                for (int cell : freeCells()) {
                    for (int d = 0; d < 4; d++) {
                        int there = freeBeside(cell, d);
                        before[cell] |= there >= 0 && leads[there] && !barred.get(t).contains(there);
                    }
                }
                leads = before;
            }
            for (int move = 0; move <= 4; move++) {
                int there = move == 4 ? start : freeBeside(start, move);
                boolean may = move == 4 || there >= 0 && !barred.get(1).contains(there);
                if (may && leads[there]) {
                    return what == 0 ? all : move;
                }
            }
        }
        return NONE;
    }

    // ---- time

    int act(int i, int move) {
        if (!isCarrier(i) || move < 0 || move > 4) {
            return BAD;
        }
        if (world.lines.size() == 100) {
            return FULL;
        }
        Body c = world.carriers.get(i);
        int why = why(i, move);
        if (why == 0 && move < 4) {
            c.cell = freeBeside(c.cell, move);
        }
        world.lines.add(new int[] {world.tick, i, move, c.cell, why});
        see(c);
        return why;
    }

    int walk(int i, int cell) {
        if (!person(i) || !has(cell)) {
            return BAD;
        }
        Body p = world.people.get(i);
        if (!couldBe(p.number, p.cell, 1).contains(cell) || carrierOn(cell)) {
            return STATE;
        }
        int was = p.cell;
        p.cell = cell;
        return was;
    }

    int tick(int n) {
        if (n < 1 || n > 50) {
            return BAD;
        }
        if (world.tick + n > 1000) {
            return STATE;
        }
        for (int k = 0; k < n; k++) {
            world.tick++;
            for (Body c : world.carriers) {
                see(c);
            }
        }
        return world.tick;
    }

    int line(int i, int what) {
        return i < 0 || i >= world.lines.size() || what < 0 || what > 4 ? BAD : world.lines.get(i)[what];
    }

    int age(int i, int cell) {
        if (!isCarrier(i) || !has(cell)) {
            return BAD;
        }
        int saw = world.carriers.get(i).saw[cell];
        return saw < 0 ? NONE : world.tick - saw;
    }

    private static final int[] ABOVE = {-1, 0, 0, 2, 1, 0, 2};

    int charge(int kind, int i) {
        if (kind < 0 || kind > 6 || !isCarrier(i)) {
            return BAD;
        }
        return body(kind, world.carriers.get(i));
    }

    private int body(int kind, Body c) {
        traced += (long) Math.pow(10, kind);
        int up = kind == 0 ? 0 : body(ABOVE[kind], c);
        int people = 0;
        for (Body p : world.people) {
            people += isSeen(c.cell, p.cell) ? 1 : 0;
        }
        int[] all = {1, up + 2 * c.number, up + Math.min(c.number, 1), 2 * up, up + 3, up + 4 + c.number, up + people};
        return all[kind];
    }

    // ---- lost

    int lost() {
        maybe = freeCells();
        return maybe.size();
    }

    private int lookFrom(int cell) {
        int bits = 0;
        for (int d = 0; d < 4; d++) {
            bits += freeBeside(cell, d) >= 0 ? 1 << d : 0;
        }
        char c = signAt(cell);
        return bits + 16 * (Character.isDigit(c) ? c - '0' : 0);
    }

    int look(int bits, int mark) {
        if (bits < 0 || bits > 15 || mark < 0 || mark > 9) {
            return BAD;
        }
        Set<Integer> left = new TreeSet<>();
        for (int cell : maybe) {
            if (lookFrom(cell) == bits + 16 * mark) {
                left.add(cell);
            }
        }
        maybe = left;
        return maybe.size();
    }

    private Set<Integer> afterStep(int d) {
        Set<Integer> left = new TreeSet<>();
        for (int cell : maybe) {
            int there = freeBeside(cell, d);
            left.add(there >= 0 ? there : cell);
        }
        return left;
    }

    int step(int d) {
        if (d < 0 || d > 3) {
            return BAD;
        }
        maybe = afterStep(d);
        return maybe.size();
    }

    long where() {
        return bits(maybe);
    }

    int tells(int what) {
        if (what != 0 && what != 1) {
            return BAD;
        }
        int[] unlike = new int[4];
        for (int d = 0; d < 4; d++) {
            Set<Integer> looks = new HashSet<>();
            for (int cell : afterStep(d)) {
                looks.add(lookFrom(cell));
            }
            unlike[d] = looks.size();
        }
        int best = 0;
        for (int d = 3; d >= 0; d--) {
            if (unlike[d] >= unlike[best]) {
                best = d;
            }
        }
        return what == 0 ? best : unlike[best];
    }

    // ---- orders

    int order(int from, int to, int due) {
        if (!has(from) || !has(to) || due < 0 || due > 200) {
            return BAD;
        }
        if (!free(from) || !free(to)) {
            return STATE;
        }
        if (orders.size() == 6) {
            return FULL;
        }
        orders.add(new int[] {from, to, due});
        return orders.size() - 1;
    }

    private int[] distances(int from) {
        int[] far = new int[64];
        Arrays.fill(far, -1);
        far[from] = 0;
        ArrayDeque<Integer> queue = new ArrayDeque<>();
        queue.add(from);
        while (!queue.isEmpty()) {
            int cell = queue.remove();
            for (int d = 0; d < 4; d++) {
                int there = freeBeside(cell, d);
                if (there >= 0 && far[there] < 0) {
                    far[there] = far[cell] + 1;
                    queue.add(there);
                }
            }
        }
        return far;
    }

    private int[][] far;

    private boolean impossible() {
        if (orders.isEmpty()) {
            return false;
        }
        if (world.carriers.isEmpty()) {
            return true;
        }
        for (Body c : world.carriers) {
            int[] f = distances(c.cell);
            for (int[] o : orders) {
                if (f[o[0]] < 0 || f[o[1]] < 0) {
                    return true;
                }
            }
        }
        return false;
    }

    private int lateness(int carrier, List<Integer> row) {
        int cell = world.carriers.get(carrier).cell;
        int time = world.tick;
        int sum = 0;
        for (int o : row) {
            int[] order = orders.get(o);
            time += far[cell][order[0]] + far[order[0]][order[1]];
            cell = order[1];
            sum += time > order[2] ? time - order[2] : 0;
        }
        return sum;
    }

    /** The first of the least late rows of a set, all rows tried. */
    private List<Integer> firstLeast(int carrier, List<Integer> set) {
        List<List<Integer>> all = new ArrayList<>();
        allRows(set, new ArrayList<>(), all);
        List<Integer> best = null;
        for (List<Integer> row : all) {
            if (best == null || lateness(carrier, row) < lateness(carrier, best)) {
                best = row;
            }
        }
        return best;
    }

    private static void allRows(List<Integer> set, List<Integer> begun, List<List<Integer>> all) {
        if (begun.size() == set.size()) {
            all.add(new ArrayList<>(begun));
            return;
        }
        for (int o : set) {
            if (!begun.contains(o)) {
                begun.add(o);
                allRows(set, begun, all);
                begun.remove(begun.size() - 1);
            }
        }
    }

    private List<Integer> bestZero;
    private List<Integer> bestOne;
    private int leastLate;

    private void plan() {
        far = new int[64][];
        for (int cell : freeCells()) {
            far[cell] = distances(cell);
        }
        leastLate = Integer.MAX_VALUE;
        int sets = world.carriers.size() == 2 ? 1 << orders.size() : 1;
        for (int set = 0; set < sets; set++) {
            List<Integer> zero = new ArrayList<>();
            List<Integer> one = new ArrayList<>();
            for (int o = 0; o < orders.size(); o++) {
                ((set >> o & 1) == 1 ? one : zero).add(o);
            }
            zero = firstLeast(0, zero);
            int sum = lateness(0, zero);
            if (!one.isEmpty()) {
                one = firstLeast(1, one);
                sum += lateness(1, one);
            }
            if (sum < leastLate) {
                leastLate = sum;
                bestZero = zero;
                bestOne = one;
            }
        }
    }

    int late() {
        if (orders.isEmpty()) {
            return 0;
        }
        if (impossible()) {
            return STATE;
        }
        plan();
        return leastLate;
    }

    int served(int i, int k) {
        if (!isCarrier(i) || k < 0) {
            return BAD;
        }
        if (orders.isEmpty()) {
            return NONE;
        }
        if (impossible()) {
            return STATE;
        }
        plan();
        List<Integer> row = i == 0 ? bestZero : bestOne;
        return k < row.size() ? row.get(k) : NONE;
    }

    int keep(int i) {
        if (i != 0 && i != 1) {
            return BAD;
        }
        images[i] = world.copy();
        return world.tick;
    }

    int back(int i) {
        if (i != 0 && i != 1) {
            return BAD;
        }
        if (images[i] == null) {
            return STATE;
        }
        for (int cell : doorCells()) {
            if (!free(cell) && somebodyOn(images[i], cell)) {
                return STATE;
            }
        }
        world = images[i].copy();
        return world.tick;
    }

    int count(int what) {
        int[] all = {rows.length * rows[0].length(), doorCells().size(), world.people.size(), world.carriers.size(),
            orders.size(), world.lines.size(), world.tick, text.length(), freeCells().size()};
        return what < 0 || what >= all.length ? BAD : all[what];
    }

    long trace() {
        return traced;
    }
}
