import java.util.Arrays;

/**
 * A carrier among people in a hall of up to 8 times 8 cells.
 *
 * Sets of cells are bits of a long number: bit 8 y + x. All rows are made with
 * the object and used again, so that no call makes anything.
 */
public final class HallCarrier {
    public static final int BAD = -1, STATE = -2, FULL = -3, NONE = -9;

    private static final int SIDE = 8;
    private static final int ALL_CELLS = 64;
    private static final int MOST_BYTES = 80;
    private static final int MOST_DOORS = 8;
    private static final int MOST_PEOPLE = 6;
    private static final int MOST_CARRIERS = 2;
    private static final int MOST_LINES = 100;
    private static final int MOST_ORDERS = 6;
    private static final int MOST_IMAGES = 2;
    private static final int MOST_AHEAD = 20;
    private static final int MOST_TICKS_AT_ONCE = 50;
    private static final int LAST_TICK = 1000;
    private static final int LAST_DUE = 200;
    private static final int LAST_LOAD = 9;
    private static final int LAST_MARK = 9;
    private static final int LOOKS = 16;

    private static final int STANDS = 0, WALKS = 1, SUDDEN = 2, BLOCKS = 3;
    private static final int DIRECTIONS = 4;
    private static final int WAITING = 4;
    private static final int DONE = 0, NOT_FREE = 1, CARRIER_THERE = 2, SEEN_COULD = 3, UNSEEN_COULD = 4;
    private static final int LINE_PARTS = 5;
    private static final int NEVER = -1;
    private static final int NO_FAULT = -1;

    /** How a cell's number changes by a step in each direction. */
    private static final int[] STEP_BY = {-8, 1, 8, -1};
    private static final long FIRST_COLUMN = 0x0101010101010101L;
    private static final long LAST_COLUMN = FIRST_COLUMN << 7;

    private final int[] text = new int[MOST_BYTES];
    private int textLength;
    private final Hall map = new Hall();
    private final Scene now = new Scene();
    private final Scene[] images = {new Scene(), new Scene()};
    private final Crowd crowd = new Crowd();
    private final Orders orders = new Orders();
    /** For each first move, where rows of moves that begin with it could have led. */
    private final long[] ledTo = new long[WAITING + 1];
    private long maybe;
    private long traced;

    public HallCarrier() {
        type(0x2E2E2F2E2EL, 5);
        becomeHall();
    }

    // ---- the hall

    public int type(long v, int n) {
        if (n < 1 || n > 8) {
            return BAD;
        }
        if (textLength + n > MOST_BYTES) {
            return FULL;
        }
        for (int k = n - 1; k >= 0; k--) {
            text[textLength] = (int) (v >>> (8 * k)) & 255;
            textLength++;
        }
        return textLength;
    }

    public int clear() {
        int had = textLength;
        textLength = 0;
        return had;
    }

    public int hall() {
        int fault = faultPlace();
        if (fault != NO_FAULT) {
            return -10 - fault;
        }
        becomeHall();
        return Long.bitCount(map.cells);
    }

    public int sign(int cell) {
        return map.has(cell) ? map.signs[cell] : BAD;
    }

    public int door(int i, int open) {
        if (i < 0 || i >= map.doors || open < 0 || open > 1) {
            return BAD;
        }
        long there = 1L << map.doorCells[i];
        if (open == 0 && (there & (now.taken() | orders.ends())) != 0) {
            return STATE;
        }
        int was = (map.free & there) != 0 ? 1 : 0;
        map.free = open == 1 ? map.free | there : map.free & ~there;
        maybe = map.free;
        orders.forgetPlan();
        return was;
    }

    public long sees(int cell) {
        return map.has(cell) ? map.seenFrom(cell) : BAD;
    }

    // ---- people, carriers

    public int person(int kind, int cell) {
        if (kind < STANDS || kind > BLOCKS || !map.has(cell)) {
            return BAD;
        }
        if (!map.isFree(cell)) {
            return STATE;
        }
        return now.people < MOST_PEOPLE ? now.addPerson(kind, cell) : FULL;
    }

    public int carrier(int cell, int load) {
        if (!map.has(cell) || load < 0 || load > LAST_LOAD) {
            return BAD;
        }
        if (!map.isFree(cell) || (now.carriersTaken() & 1L << cell) != 0) {
            return STATE;
        }
        if (now.carriers >= MOST_CARRIERS) {
            return FULL;
        }
        int number = now.addCarrier(cell, load);
        lookAround(number);
        orders.forgetPlan();
        return number;
    }

    public int at(int i, int what) {
        boolean ofPerson = what == 0 || what == 2;
        boolean ofCarrier = what == 1 || what == 3;
        if (ofPerson && isPerson(i)) {
            return what == 0 ? now.personCells[i] : now.personKinds[i];
        }
        if (ofCarrier && isCarrier(i)) {
            return what == 1 ? now.carrierCells[i] : now.loads[i];
        }
        return BAD;
    }

    public long could(int person, int ticks) {
        if (!isPerson(person) || ticks < 0 || ticks > MOST_AHEAD) {
            return BAD;
        }
        return couldBe(person, ticks);
    }

    public long anybody(int carrier, int ticks) {
        if (!isCarrier(carrier) || ticks < 0 || ticks > MOST_AHEAD) {
            return BAD;
        }
        gatherAnybody(carrier);
        return crowd.afterTicks(ticks, map.free);
    }

    public int let(int carrier) {
        if (!isCarrier(carrier)) {
            return BAD;
        }
        int moves = 0;
        for (int move = 0; move <= WAITING; move++) {
            if (whyNot(carrier, move) == DONE) {
                moves |= 1 << move;
            }
        }
        return moves;
    }

    public int soonest(int carrier, int cell, int what) {
        if (!isCarrier(carrier) || !map.has(cell) || what < 0 || what > 1) {
            return BAD;
        }
        if (!map.isFree(cell)) {
            return STATE;
        }
        if (now.carrierCells[carrier] == cell) {
            return what == 0 ? 0 : NONE;
        }
        return soonestRow(carrier, 1L << cell, what);
    }

    // ---- time

    public int act(int carrier, int move) {
        if (!isCarrier(carrier) || move < 0 || move > WAITING) {
            return BAD;
        }
        if (now.lineCount >= MOST_LINES) {
            return FULL;
        }
        int why = whyNot(carrier, move);
        if (why == DONE && move < DIRECTIONS) {
            now.carrierCells[carrier] += STEP_BY[move];
            orders.forgetPlan();
        }
        now.addLine(carrier, move, why);
        lookAround(carrier);
        return why;
    }

    public int walk(int person, int cell) {
        if (!isPerson(person) || !map.has(cell)) {
            return BAD;
        }
        if ((couldBe(person, 1) & ~now.carriersTaken() & 1L << cell) == 0) {
            return STATE;
        }
        int was = now.personCells[person];
        now.personCells[person] = cell;
        return was;
    }

    public int tick(int n) {
        if (n < 1 || n > MOST_TICKS_AT_ONCE) {
            return BAD;
        }
        if (now.tick + n > LAST_TICK) {
            return STATE;
        }
        now.tick += n;
        // Nothing moves between these ticks: the last one's look hides the others'.
        for (int c = 0; c < now.carriers; c++) {
            lookAround(c);
        }
        orders.forgetPlan();
        return now.tick;
    }

    public int line(int i, int what) {
        if (i < 0 || i >= now.lineCount || what < 0 || what >= LINE_PARTS) {
            return BAD;
        }
        return now.lines[LINE_PARTS * i + what];
    }

    public int age(int carrier, int cell) {
        if (!isCarrier(carrier) || !map.has(cell)) {
            return BAD;
        }
        int saw = now.sawAt[ALL_CELLS * carrier + cell];
        return saw == NEVER ? NONE : now.tick - saw;
    }

    public int charge(int kind, int carrier) {
        if (!isCarrier(carrier)) {
            return BAD;
        }
        switch (kind) {
            case 0: return chargeMove();
            case 1: return chargeGo(carrier);
            case 2: return chargeWait(carrier);
            case 3: return chargeYield(carrier);
            case 4: return chargeBack(carrier);
            case 5: return chargeRide(carrier);
            case 6: return chargeAsk(carrier);
            default: return BAD;
        }
    }

    // ---- lost

    public int lost() {
        maybe = map.free;
        return Long.bitCount(maybe);
    }

    public int look(int bits, int mark) {
        if (bits < 0 || bits >= LOOKS || mark < 0 || mark > LAST_MARK) {
            return BAD;
        }
        maybe &= map.looksLike(bits) & map.markCells[mark];
        return Long.bitCount(maybe);
    }

    public int step(int direction) {
        if (direction < 0 || direction >= DIRECTIONS) {
            return BAD;
        }
        maybe = map.stepped(maybe, direction);
        return Long.bitCount(maybe);
    }

    public long where() {
        return maybe;
    }

    public int tells(int what) {
        if (what < 0 || what > 1) {
            return BAD;
        }
        int best = 0;
        int most = 0;
        for (int d = 0; d < DIRECTIONS; d++) {
            int unlike = map.unlikeLooks(map.stepped(maybe, d));
            if (unlike > most) {
                best = d;
                most = unlike;
            }
        }
        return what == 0 ? best : most;
    }

    // ---- orders

    public int order(int from, int to, int due) {
        if (!map.has(from) || !map.has(to) || due < 0 || due > LAST_DUE) {
            return BAD;
        }
        if (!map.isFree(from) || !map.isFree(to)) {
            return STATE;
        }
        return orders.many < MOST_ORDERS ? orders.add(from, to, due) : FULL;
    }

    public int late() {
        if (orders.many == 0) {
            return 0;
        }
        orders.makePlan(map.free, now);
        return orders.possible ? orders.least : STATE;
    }

    public int served(int carrier, int k) {
        if (!isCarrier(carrier) || k < 0) {
            return BAD;
        }
        if (orders.many == 0) {
            return NONE;
        }
        orders.makePlan(map.free, now);
        return orders.possible ? orders.planned(carrier, k) : STATE;
    }

    public int keep(int image) {
        if (image < 0 || image >= MOST_IMAGES) {
            return BAD;
        }
        images[image].copyFrom(now);
        images[image].kept = true;
        return now.tick;
    }

    public int back(int image) {
        if (image < 0 || image >= MOST_IMAGES) {
            return BAD;
        }
        if (!images[image].kept || (images[image].taken() & ~map.free) != 0) {
            return STATE;
        }
        now.copyFrom(images[image]);
        orders.forgetPlan();
        return now.tick;
    }

    public int count(int what) {
        switch (what) {
            case 0: return Long.bitCount(map.cells);
            case 1: return map.doors;
            case 2: return now.people;
            case 3: return now.carriers;
            case 4: return orders.many;
            case 5: return now.lineCount;
            case 6: return now.tick;
            case 7: return textLength;
            case 8: return Long.bitCount(map.free);
            default: return BAD;
        }
    }

    public long trace() {
        return traced;
    }

    // ---- reading the text

    /** The place of the first byte that can't stand there, or NO_FAULT. */
    private int faultPlace() {
        int width = 0;
        int rows = 1;
        int inRow = 0;
        int doors = 0;
        int marks = 0;
        for (int i = 0; i < textLength; i++) {
            int b = text[i];
            if (b == '/') {
                if (inRow < (rows == 1 ? 2 : width) || rows == SIDE) {
                    return i;
                }
                width = inRow;
                inRow = 0;
                rows++;
            } else {
                int mark = markOf(b);
                if (inRow == (rows == 1 ? SIDE : width) || !isSign(b) || (marks & mark) != 0) {
                    return i;
                }
                if (b == 'D' && doors == MOST_DOORS) {
                    return i;
                }
                doors += b == 'D' ? 1 : 0;
                marks |= mark;
                inRow++;
            }
        }
        return rows == 1 || inRow < width ? textLength : NO_FAULT;
    }

    private static boolean isSign(int b) {
        return b == '.' || b == '#' || b == 'D' || isMark(b);
    }

    private static boolean isMark(int b) {
        return b >= '1' && b <= '9';
    }

    /** A bit of its own for each mark; none for other signs. */
    private static int markOf(int b) {
        return isMark(b) ? 1 << (b - '0') : 0;
    }

    /** To be called with a text that has no fault. */
    private void becomeHall() {
        map.empty();
        int x = 0;
        int y = 0;
        for (int i = 0; i < textLength; i++) {
            if (text[i] == '/') {
                x = 0;
                y++;
            } else {
                map.put(x, y, text[i]);
                x++;
            }
        }
        textLength = 0;
        maybe = map.free;
        now.empty();
        for (int i = 0; i < MOST_IMAGES; i++) {
            images[i].kept = false;
        }
        orders.empty();
    }

    // ---- who is where

    private boolean isPerson(int i) {
        return i >= 0 && i < now.people;
    }

    private boolean isCarrier(int i) {
        return i >= 0 && i < now.carriers;
    }

    private long seenBy(int carrier) {
        return map.seenFrom(now.carrierCells[carrier]);
    }

    private void lookAround(int carrier) {
        long seen = seenBy(carrier);
        for (int cell = 0; cell < ALL_CELLS; cell++) {
            if ((seen >>> cell & 1) != 0) {
                now.sawAt[ALL_CELLS * carrier + cell] = now.tick;
            }
        }
    }

    private long couldBe(int person, int ticks) {
        crowd.empty(now);
        crowd.join(now.personKinds[person], 1L << now.personCells[person]);
        return crowd.afterTicks(ticks, map.free);
    }

    private void gatherSeen(long seen) {
        crowd.empty(now);
        for (int i = 0; i < now.people; i++) {
            crowd.join(now.personKinds[i], seen & 1L << now.personCells[i]);
        }
    }

    private void gatherAnybody(int carrier) {
        long seen = seenBy(carrier);
        gatherSeen(seen);
        crowd.join(WALKS, map.free & ~seen);
    }

    /** DONE if the move is let, else what is in its way first. */
    private int whyNot(int carrier, int move) {
        if (move == WAITING) {
            return DONE;
        }
        long goal = shifted(1L << now.carrierCells[carrier], move) & map.free;
        if (goal == 0) {
            return NOT_FREE;
        }
        if ((goal & now.carriersTaken()) != 0) {
            return CARRIER_THERE;
        }
        gatherSeen(seenBy(carrier));
        if ((goal & crowd.afterTicks(1, map.free)) != 0) {
            return SEEN_COULD;
        }
        gatherAnybody(carrier);
        return (goal & crowd.afterTicks(1, map.free)) != 0 ? UNSEEN_COULD : DONE;
    }

    /** To a goal where the carrier is not: the ticks (what = 0) or the first move. */
    private int soonestRow(int carrier, long goal, int what) {
        long start = 1L << now.carrierCells[carrier];
        long open = map.free & (~now.carriersTaken() | start);
        gatherAnybody(carrier);
        for (int t = 1; t <= MOST_AHEAD; t++) {
            long enterable = open & ~crowd.afterTicks(1, map.free);
            for (int first = 0; first <= WAITING; first++) {
                if (t > 1) {
                    ledTo[first] = widened(ledTo[first], enterable);
                } else {
                    ledTo[first] = first == WAITING ? start : shifted(start, first) & enterable;
                }
                if ((ledTo[first] & goal) != 0) {
                    return what == 0 ? t : first;
                }
            }
        }
        return NONE;
    }

    // ---- what kinds of moves cost; each body puts its own number to the trace

    private int chargeMove() {
        traced += 1;
        return 1;
    }

    private int chargeGo(int carrier) {
        traced += 10;
        return chargeMove() + 2 * now.loads[carrier];
    }

    private int chargeWait(int carrier) {
        traced += 100;
        return chargeMove() + (now.loads[carrier] > 0 ? 1 : 0);
    }

    private int chargeYield(int carrier) {
        traced += 1000;
        return 2 * chargeWait(carrier);
    }

    private int chargeBack(int carrier) {
        traced += 10000;
        return chargeGo(carrier) + 3;
    }

    private int chargeRide(int carrier) {
        traced += 100000;
        return chargeMove() + 4 + now.loads[carrier];
    }

    private int chargeAsk(int carrier) {
        traced += 1000000;
        long seen = seenBy(carrier);
        int people = 0;
        for (int i = 0; i < now.people; i++) {
            people += (int) (seen >>> now.personCells[i] & 1);
        }
        return chargeWait(carrier) + people;
    }

    // ---- sets of cells

    /** All cells one further in a direction; those that leave the 8 times 8 are dropped. */
    private static long shifted(long set, int direction) {
        switch (direction) {
            case 0: return set >>> 8;
            case 1: return (set & ~LAST_COLUMN) << 1;
            case 2: return set << 8;
            default: return (set & ~FIRST_COLUMN) >>> 1;
        }
    }

    /** The set, and the enterable cells beside it. */
    private static long widened(long set, long enterable) {
        long beside = set >>> 8 | set << 8 | (set & ~LAST_COLUMN) << 1 | (set & ~FIRST_COLUMN) >>> 1;
        return set | beside & enterable;
    }

    /** The cells from which a step in a direction comes nearer to a cell. */
    private static long behind(int cell, int direction) {
        int x = cell & 7;
        int y = cell >> 3;
        switch (direction) {
            case 0: return -1L << (8 * y) << 8;
            case 1: return FIRST_COLUMN * ((1 << x) - 1);
            case 2: return (1L << (8 * y)) - 1;
            default: return FIRST_COLUMN * (254 << x & 255);
        }
    }

    /** The cells of the hall, its doors and marks. */
    private static final class Hall {
        private final int[] signs = new int[ALL_CELLS];
        private final int[] doorCells = new int[MOST_DOORS];
        /** For each mark its cell, as a set; for 0 all cells without a mark. */
        private final long[] markCells = new long[LAST_MARK + 1];
        private int doors;
        private long cells;
        private long free;

        private void empty() {
            Arrays.fill(markCells, 0L);
            doors = 0;
            cells = 0;
            free = 0;
        }

        private void put(int x, int y, int sign) {
            if (x >= SIDE || y >= SIDE) {
                return;
            }
            int cell = SIDE * y + x;
            long there = 1L << cell;
            signs[cell] = sign;
            cells |= there;
            if (sign != '#' && sign != 'D') {
                free |= there;
            }
            if (sign == 'D' && doors < MOST_DOORS) {
                doorCells[doors] = cell;
                doors++;
            }
            markCells[isMark(sign) ? sign - '0' : 0] |= there;
        }

        private boolean has(int cell) {
            return cell >= 0 && cell < ALL_CELLS && (cells >>> cell & 1) != 0;
        }

        private boolean isFree(int cell) {
            return (free >>> cell & 1) != 0;
        }

        private long seenFrom(int cell) {
            long self = 1L << cell;
            long columnsBeside = shifted(self, 1) | shifted(self, 3);
            long seen = self | shifted(columnsBeside, 0) | shifted(columnsBeside, 2);
            for (int d = 0; d < DIRECTIONS; d++) {
                long ray = shifted(self, d);
                // What is not free is seen, but nothing behind it.
                for (int k = 1; k < SIDE && ray != 0; k++) {
                    seen |= ray;
                    ray = shifted(ray & free, d);
                }
            }
            return seen & cells;
        }

        /** The free cells beside which just the cells of these directions are free. */
        private long looksLike(int bits) {
            long alike = free;
            for (int d = 0; d < DIRECTIONS; d++) {
                alike &= (bits >> d & 1) != 0 ? canStep(d) : ~canStep(d);
            }
            return alike;
        }

        /** The cells whose neighbour in a direction is free. */
        private long canStep(int direction) {
            return shifted(free, direction ^ 2);
        }

        private long stepped(long set, int direction) {
            return shifted(set, direction) & free | set & ~canStep(direction);
        }

        private int unlikeLooks(long set) {
            // A mark stands once, so that the look from its cell is like no other.
            int unlike = Long.bitCount(set & ~markCells[0]);
            for (int bits = 0; bits < LOOKS; bits++) {
                if ((set & markCells[0] & looksLike(bits)) != 0) {
                    unlike++;
                }
            }
            return unlike;
        }
    }

    /** What an image keeps: people, carriers, what these saw when, tick, lines. */
    private static final class Scene {
        private final int[] personCells = new int[MOST_PEOPLE];
        private final int[] personKinds = new int[MOST_PEOPLE];
        private final int[] carrierCells = new int[MOST_CARRIERS];
        private final int[] loads = new int[MOST_CARRIERS];
        /** For each carrier and cell the tick when it saw it last, or NEVER. */
        private final int[] sawAt = new int[MOST_CARRIERS * ALL_CELLS];
        private final int[] lines = new int[MOST_LINES * LINE_PARTS];
        private int people;
        private int carriers;
        private int lineCount;
        private int tick;
        private boolean kept;

        private void empty() {
            people = 0;
            carriers = 0;
            lineCount = 0;
            tick = 0;
        }

        private int addPerson(int kind, int cell) {
            personKinds[people] = kind;
            personCells[people] = cell;
            people++;
            return people - 1;
        }

        private int addCarrier(int cell, int load) {
            carrierCells[carriers] = cell;
            loads[carriers] = load;
            for (int there = 0; there < ALL_CELLS; there++) {
                sawAt[ALL_CELLS * carriers + there] = NEVER;
            }
            carriers++;
            return carriers - 1;
        }

        private void addLine(int carrier, int move, int why) {
            int place = LINE_PARTS * lineCount;
            lines[place] = tick;
            lines[place + 1] = carrier;
            lines[place + 2] = move;
            lines[place + 3] = carrierCells[carrier];
            lines[place + 4] = why;
            lineCount++;
        }

        private long carriersTaken() {
            long set = 0;
            for (int c = 0; c < carriers; c++) {
                set |= 1L << carrierCells[c];
            }
            return set;
        }

        private long taken() {
            long set = carriersTaken();
            for (int i = 0; i < people; i++) {
                set |= 1L << personCells[i];
            }
            return set;
        }

        private void copyFrom(Scene other) {
            System.arraycopy(other.personCells, 0, personCells, 0, MOST_PEOPLE);
            System.arraycopy(other.personKinds, 0, personKinds, 0, MOST_PEOPLE);
            System.arraycopy(other.carrierCells, 0, carrierCells, 0, MOST_CARRIERS);
            System.arraycopy(other.loads, 0, loads, 0, MOST_CARRIERS);
            System.arraycopy(other.sawAt, 0, sawAt, 0, MOST_CARRIERS * ALL_CELLS);
            System.arraycopy(other.lines, 0, lines, 0, MOST_LINES * LINE_PARTS);
            people = other.people;
            carriers = other.carriers;
            lineCount = other.lineCount;
            tick = other.tick;
        }
    }

    /** Where people of each kind could be, tick by tick. */
    private static final class Crowd {
        /** For each direction, from where a step comes nearer to some carrier. */
        private final long[] nearing = new long[DIRECTIONS];
        private long standing;
        private long walking;
        private long sudden;
        private long blocking;

        /** Nobody is in it; those who will block look at the carriers of a scene. */
        private void empty(Scene scene) {
            standing = 0;
            walking = 0;
            sudden = 0;
            blocking = 0;
            for (int d = 0; d < DIRECTIONS; d++) {
                nearing[d] = 0;
                for (int c = 0; c < scene.carriers; c++) {
                    nearing[d] |= behind(scene.carrierCells[c], d);
                }
            }
        }

        private void join(int kind, long cells) {
            switch (kind) {
                case STANDS: standing |= cells; break;
                case WALKS: walking |= cells; break;
                case SUDDEN: sudden |= cells; break;
                default: blocking |= cells; break;
            }
        }

        private long afterTicks(int ticks, long free) {
            for (int t = 0; t < ticks; t++) {
                walking = widened(walking, free);
                sudden = widened(widened(sudden, free), free);
                blocking = nearer(free);
            }
            return standing | walking | sudden | blocking;
        }

        private long nearer(long free) {
            long set = blocking;
            for (int d = 0; d < DIRECTIONS; d++) {
                set |= shifted(blocking & nearing[d], d) & free;
            }
            return set;
        }
    }

    /** The orders, and how the carriers serve them with the least lateness. */
    private static final class Orders {
        private static final int SETS = 1 << MOST_ORDERS;
        /** Starts of a way: the end of an order by its number, then the carriers. */
        private static final int STARTS = MOST_ORDERS + MOST_CARRIERS;
        private static final int UNKNOWN = -1;
        private static final int FAR = 1000000;

        private final int[] from = new int[MOST_ORDERS];
        private final int[] to = new int[MOST_ORDERS];
        private final int[] due = new int[MOST_ORDERS];
        /** For each start and order, the steps to where the order is. */
        private final int[] steps = new int[STARTS * MOST_ORDERS];
        /** For each carrier and set of orders, the least lateness, and the first row with it. */
        private final int[] leastOf = new int[MOST_CARRIERS * SETS];
        private final int[] rowOf = new int[MOST_CARRIERS * SETS];
        private final int[] bestRow = new int[MOST_CARRIERS];
        private int many;
        private int least;
        private boolean possible;
        private boolean fresh;

        private void empty() {
            many = 0;
            fresh = false;
        }

        private void forgetPlan() {
            fresh = false;
        }

        private int add(int fromCell, int toCell, int dueTick) {
            from[many] = fromCell;
            to[many] = toCell;
            due[many] = dueTick;
            many++;
            fresh = false;
            return many - 1;
        }

        private long ends() {
            long set = 0;
            for (int o = 0; o < many; o++) {
                set |= 1L << from[o] | 1L << to[o];
            }
            return set;
        }

        /** A row holds number + 1 of its k-th order in its k-th four bits. */
        private int planned(int carrier, int k) {
            int number = k < MOST_ORDERS ? (bestRow[carrier] >>> (4 * k) & 15) : 0;
            return number == 0 ? NONE : number - 1;
        }

        private void makePlan(long free, Scene scene) {
            if (fresh) {
                return;
            }
            fresh = true;
            possible = scene.carriers > 0 && measure(free, scene);
            if (possible) {
                Arrays.fill(leastOf, FAR);
                for (int c = 0; c < scene.carriers; c++) {
                    tryRows(c, MOST_ORDERS + c, 0, 0, scene.tick, 0, 0);
                }
                chooseSets(scene.carriers);
            }
        }

        /** Finds all steps; false if some end can't be come to. */
        private boolean measure(long free, Scene scene) {
            boolean all = true;
            for (int o = 0; o < many; o++) {
                measureFrom(o, to[o], free);
                all = all && steps[MOST_ORDERS * o + o] != UNKNOWN;
            }
            for (int c = 0; c < scene.carriers; c++) {
                measureFrom(MOST_ORDERS + c, scene.carrierCells[c], free);
                for (int o = 0; o < many; o++) {
                    all = all && steps[MOST_ORDERS * (MOST_ORDERS + c) + o] != UNKNOWN;
                }
            }
            return all;
        }

        private void measureFrom(int start, int cell, long free) {
            int row = MOST_ORDERS * start;
            for (int o = 0; o < many; o++) {
                steps[row + o] = UNKNOWN;
            }
            long reached = 1L << cell;
            long before = 0;
            for (int n = 0; n < ALL_CELLS && reached != before; n++) {
                for (int o = 0; o < many; o++) {
                    if (((reached & ~before) >>> from[o] & 1) != 0) {
                        steps[row + o] = n;
                    }
                }
                before = reached;
                reached = widened(reached, free);
            }
        }

        /**
         * Goes through all rows in their order, so that of equally late ones the first stays.
         * The way of an order itself is as long as that from its end to where it is.
         */
        private void tryRows(int carrier, int start, int set, int row, int time, int lateness, int depth) {
            // That carrier 0 serves all comes ahead of what is as late, so nothing so late is wanted.
            if (lateness >= leastOf[(1 << many) - 1]) {
                return;
            }
            int place = SETS * carrier + set;
            if (lateness < leastOf[place]) {
                leastOf[place] = lateness;
                rowOf[place] = row;
            }
            if (depth >= MOST_ORDERS) {
                return;
            }
            for (int o = 0; o < many; o++) {
                if ((set >> o & 1) == 0) {
                    int there = time + steps[MOST_ORDERS * start + o] + steps[MOST_ORDERS * o + o];
                    int longer = row | (o + 1) << (4 * depth);
                    int behindDue = Math.max(0, there - due[o]);
                    tryRows(carrier, o, set | 1 << o, longer, there, lateness + behindDue, depth + 1);
                }
            }
        }

        private void chooseSets(int carriers) {
            int all = (1 << many) - 1;
            least = leastOf[all];
            bestRow[0] = rowOf[all];
            bestRow[1] = 0;
            for (int set = 1; set <= all && carriers > 1; set++) {
                int together = leastOf[all ^ set] + leastOf[SETS + set];
                if (together < least) {
                    least = together;
                    bestRow[0] = rowOf[all ^ set];
                    bestRow[1] = rowOf[SETS + set];
                }
            }
        }
    }
}
