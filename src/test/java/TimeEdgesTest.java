/** Promises 15 to 20: acts, walks, ticks, lines, ages, charges; a test for each sentence that names an edge. */
public final class TimeEdgesTest {
    private static final int BAD = Due.BAD, STATE = Due.STATE, FULL = Due.FULL, NONE = Due.NONE;
    private static final int STANDS = 0, WALKS = 1, SUDDEN = 2, BLOCKS = 3;
    private static final int[] NO_NUMBERS = {-1, -2, 6, 7, 32, 64, Integer.MIN_VALUE, Integer.MAX_VALUE};
    private static final String CORRIDOR = Due.CORRIDOR;
    private final Due due = new Due();

    public static void main(String[] args) {
        TimeEdgesTest t = new TimeEdgesTest();
        t.timeAtFirst();
        t.moves();
        t.noFreeCell();
        t.aCarrierIsThere();
        t.aPersonCouldCome();
        t.theFirstOfThese();
        t.elseItWaits();
        t.actsRefusals();
        t.hundredLines();
        t.aFullActChangesNothing();
        t.linesBehindBack();
        t.walksByKind();
        t.walkToCarriers();
        t.walkBeyond();
        t.walksRefusals();
        t.ticksAtOnce();
        t.thousandTicks();
        t.ticksBehindBack();
        t.linesOfARun();
        t.linesRefusals();
        t.agesAtFirst();
        t.looksAsItIsPut();
        t.looksAsATickComes();
        t.looksAsItActs();
        t.doorsThatOpen();
        t.hallReadAnew();
        t.oldestAge();
        t.agesRefusals();
        t.chargesByLoad();
        t.chargesByPeople();
        t.chargesTraced();
        t.chargesRefusals();
        t.due.end();
    }

    private void timeAtFirst() {
        due.by("TIME is in TICKS, 0 at first.");
        HallCarrier x = new HallCarrier();
        due.is("count(6)", x.count(6), 0);
        due.is("keep(0)", x.keep(0), 0);
        x.carrier(0, 0);
        x.act(0, 4);
        due.is("line(0, 0)", x.line(0, 0), 0);
        due.is("an act is no tick", x.count(6), 0);
        x.person(WALKS, 9);
        x.walk(0, 8);
        due.is("a walk is no tick", x.count(6), 0);
        due.is("tick(1)", x.tick(1), 1);
    }

    private void moves() {
        due.by("A CARRIER ACTS: a move (0 .. 4); it is done, if it is LET");
        int[] cells = {1, 10, 17, 8, 9};
        for (int move = 0; move <= 4; move++) {
            HallCarrier x = Due.hallOf(".../.../...");
            x.carrier(9, 0);
            due.is("act(0, " + move + ")", x.act(0, move), 0);
            due.is("at(0, 1)", x.at(0, 1), cells[move]);
            due.is("line(0, 2)", x.line(0, 2), move);
            due.is("line(0, 3)", x.line(0, 3), cells[move]);
            due.is("line(0, 4)", x.line(0, 4), 0);
        }
        HallCarrier y = Due.hallOf(Due.floors(8, 8));
        y.carrier(62, 0);
        due.is("to the last cell", y.act(0, 1), 0);
        due.is("at(0, 1)", y.at(0, 1), 63);
        due.is("beyond it", y.act(0, 1), 1);
        due.is("beyond it", y.act(0, 2), 1);
        due.is("at(0, 1)", y.at(0, 1), 63);
    }

    private void noFreeCell() {
        due.by("WHY: ... 1 no FREE CELL is there");
        int[] corners = {0, 7, 56, 63};
        int[][] out = {{0, 3}, {0, 1}, {2, 3}, {1, 2}};
        for (int k = 0; k < corners.length; k++) {
            HallCarrier x = Due.hallOf(Due.floors(8, 8));
            x.carrier(corners[k], 0);
            for (int move : out[k]) {
                due.is("act(0, " + move + ") from " + corners[k], x.act(0, move), 1);
                due.is("at(0, 1)", x.at(0, 1), corners[k]);
            }
        }
        HallCarrier y = Due.hallOf("###/#.D/###");
        y.carrier(9, 0);
        due.is("a wall above", y.act(0, 0), 1);
        due.is("a SHUT door", y.act(0, 1), 1);
        due.is("a wall below", y.act(0, 2), 1);
        due.is("a wall to the left", y.act(0, 3), 1);
        y.door(0, 1);
        due.is("an open door", y.act(0, 1), 0);
        HallCarrier z = Due.hallOf("../..");
        z.carrier(9, 0);
        due.is("a small hall's border to the right", z.act(0, 1), 1);
        due.is("a small hall's border below", z.act(0, 2), 1);
    }

    private void aCarrierIsThere() {
        due.by("WHY: ... 2 a CARRIER is");
        HallCarrier x = Due.hallOf(CORRIDOR);
        x.carrier(2, 0);
        x.carrier(4, 0);
        due.is("a cell between them", x.act(0, 1), 0);
        due.is("none between them", x.act(0, 1), 2);
        due.is("nor from the other side", x.act(1, 3), 2);
        due.is("away", x.act(1, 1), 0);
        due.is("then it is free", x.act(0, 1), 0);
        due.is("at(0, 1)", x.at(0, 1), 4);
        due.is("at(1, 1)", x.at(1, 1), 5);
    }

    private int actRight(int kind, int cell) {
        HallCarrier x = Due.hallOf(CORRIDOR);
        x.carrier(2, 0);
        x.person(kind, cell);
        return x.act(0, 1);
    }

    private void aPersonCouldCome() {
        due.by("WHY: ... 3 a PERSON that it SEES could come there");
        int[] standing = {0, 0, 0, 3, 0, 0, 0, 0};
        int[] walking = {0, 0, 3, 3, 3, 0, 0, 0};
        int[] sudden = {0, 3, 3, 3, 3, 3, 0, 0};
        int[] blocking = {0, 0, 0, 3, 3, 0, 0, 0};
        for (int cell = 0; cell < 8; cell++) {
            due.is("who stands at " + cell, actRight(STANDS, cell), standing[cell]);
            due.is("who walks from " + cell, actRight(WALKS, cell), walking[cell]);
            due.is("who is sudden from " + cell, actRight(SUDDEN, cell), sudden[cell]);
            due.is("who blocks from " + cell, actRight(BLOCKS, cell), blocking[cell]);
        }
        HallCarrier x = Due.hallOf(CORRIDOR);
        x.carrier(2, 0);
        for (int i = 0; i < 5; i++) {
            x.person(STANDS, 7);
        }
        x.person(WALKS, 4);
        due.is("the sixth one", x.act(0, 1), 3);
        HallCarrier y = Due.hallOf("..#/.D./###");
        y.carrier(8, 0);
        y.person(WALKS, 10);
        due.is("behind a SHUT door, unseen", y.act(0, 0), 0);
        y.door(0, 1);
        due.is("two steps from one unseen", y.act(0, 1), 0);
        due.is("one seen aslant", y.act(0, 2), 3);
    }

    private void theFirstOfThese() {
        due.by("WHY: 0 done, 1 no FREE CELL is there, 2 a CARRIER is, 3 a PERSON that it SEES could come there (the first of these)");
        HallCarrier x = Due.hallOf(CORRIDOR);
        x.carrier(2, 0);
        x.carrier(3, 0);
        x.person(STANDS, 3);
        x.person(WALKS, 2);
        due.is("a carrier ahead of a person", x.act(0, 1), 2);
        due.is("no FREE CELL ahead of a person", x.act(0, 0), 1);
        due.is("a person", x.act(0, 3), 3);
        due.is("to wait is done", x.act(0, 4), 0);
    }

    private void elseItWaits() {
        due.by("else it waits (and that is told); A LINE is written ... with the TICK, CARRIER, move wanted, CELL behind it, and WHY");
        HallCarrier x = Due.hallOf(CORRIDOR);
        x.carrier(3, 0);
        x.carrier(4, 0);
        x.person(WALKS, 1);
        int[] moves = {0, 1, 2, 3, 4};
        int[] whys = {1, 2, 1, 3, 0};
        x.tick(2);
        for (int i = 0; i < 5; i++) {
            due.is("act(0, " + moves[i] + ")", x.act(0, moves[i]), whys[i]);
            int[] line = {2, 0, moves[i], 3, whys[i]};
            for (int what = 0; what < 5; what++) {
                due.is("line(" + i + ", " + what + ")", x.line(i, what), line[what]);
            }
            due.is("it waits", x.at(0, 1), 3);
        }
    }

    private void actsRefusals() {
        due.by("A CARRIER ACTS: WHY. BAD; FULL.");
        HallCarrier x = new HallCarrier();
        due.is("no carrier", x.act(0, 4), BAD);
        x.carrier(0, 0);
        due.is("no second carrier", x.act(1, 4), BAD);
        for (int i : NO_NUMBERS) {
            due.is("act(" + i + ", 4)", x.act(i, 4), BAD);
        }
        for (int move : new int[] {-1, 5, 6, -4, 8, 256, Integer.MIN_VALUE, Integer.MAX_VALUE}) {
            due.is("act(0, " + move + ")", x.act(0, move), BAD);
        }
        due.is("no line is written", x.count(5), 0);
        due.is("it is where it was", x.at(0, 1), 0);
        due.is("act(0, 4)", x.act(0, 4), 0);
        x.carrier(9, 0);
        due.is("act(1, 4)", x.act(1, 4), 0);
        due.is("act(2, 4)", x.act(2, 4), BAD);
    }

    private void hundredLines() {
        due.by("A LINE is written (100 at most) ... FULL");
        HallCarrier x = new HallCarrier();
        x.carrier(0, 0);
        x.carrier(9, 0);
        for (int i = 0; i < 100; i++) {
            due.is("count(5)", x.count(5), i);
            due.is("line not yet", x.line(i, 0), BAD);
            due.is("act " + i, x.act(i % 2, 4), 0);
        }
        due.is("count(5)", x.count(5), 100);
        due.is("the 101st, done or not", x.act(0, 4), FULL);
        due.is("the 101st, to go", x.act(0, 1), FULL);
        due.is("the 101st, refused else", x.act(0, 0), FULL);
        due.is("the 101st of the other", x.act(1, 4), FULL);
        due.is("BAD is ahead of FULL", x.act(0, 5), BAD);
        due.is("BAD is ahead of FULL", x.act(2, 4), BAD);
        due.is("BAD is ahead of FULL", x.act(0, -1), BAD);
        due.is("count(5)", x.count(5), 100);
        due.is("line(99, 1)", x.line(99, 1), 1);
        due.is("line(100, 1)", x.line(100, 1), BAD);
        due.is("line(0, 1)", x.line(0, 1), 0);
    }

    private void aFullActChangesNothing() {
        due.by("Refused, and nothing changes ... FULL");
        HallCarrier x = Due.hallOf("..D./####");
        x.carrier(0, 0);
        for (int i = 0; i < 100; i++) {
            x.act(0, 4);
        }
        x.door(0, 1);
        due.is("let to go", x.let(0), 18);
        due.is("FULL", x.act(0, 1), FULL);
        due.is("it did not go", x.at(0, 1), 0);
        due.is("nor look", x.age(0, 3), NONE);
        due.is("nor is a line written", x.line(99, 2), 4);
        x.tick(1);
        due.is("a tick comes", x.age(0, 3), 0);
    }

    private void linesBehindBack() {
        due.by("A LINE is written (100 at most); IMAGES keep ... LINES");
        HallCarrier x = new HallCarrier();
        x.carrier(0, 0);
        for (int i = 0; i < 99; i++) {
            x.act(0, 4);
        }
        x.keep(0);
        due.is("the hundredth", x.act(0, 0), 1);
        due.is("one more", x.act(0, 4), FULL);
        x.keep(1);
        due.is("back to 99", x.back(0), 0);
        due.is("count(5)", x.count(5), 99);
        due.is("line(99, 0)", x.line(99, 0), BAD);
        due.is("the hundredth anew", x.act(0, 3), 1);
        due.is("line(99, 2)", x.line(99, 2), 3);
        due.is("one more", x.act(0, 4), FULL);
        due.is("back to 100", x.back(1), 0);
        due.is("line(99, 2)", x.line(99, 2), 0);
        due.is("one more", x.act(0, 4), FULL);
    }

    private void walksByKind() {
        due.by("a PERSON goes to a CELL where it COULD BE in 1 TICK ... STATE: it COULD not BE there in 1 TICK");
        // From cell 27: 0, 1, 2 and 3 steps away.
        int[][] cells = {{27}, {19, 28, 35, 26}, {11, 20, 29, 36, 43, 34, 25, 18}, {3, 12, 21, 30, 37, 44, 51, 42, 33, 24, 17, 10}};
        int[] reach = {0, 1, 2, 0};
        for (int kind = 0; kind < 4; kind++) {
            for (int steps = 0; steps < 4; steps++) {
                for (int cell : cells[steps]) {
                    HallCarrier x = Due.hallOf(Due.floors(8, 8));
                    x.person(kind, 27);
                    boolean could = steps <= reach[kind];
                    due.is("kind " + kind + " to " + cell, x.walk(0, cell), could ? 27 : STATE);
                    due.is("at(0, 0)", x.at(0, 0), could ? cell : 27);
                }
            }
        }
        int[] nearer = {19, 26};
        int[] away = {28, 35};
        for (int k = 0; k < 2; k++) {
            HallCarrier x = Due.hallOf(Due.floors(8, 8));
            x.carrier(0, 0);
            x.person(BLOCKS, 27);
            due.is("who blocks, away", x.walk(0, away[k]), STATE);
            due.is("who blocks, nearer", x.walk(0, nearer[k]), 27);
            due.is("and back", x.walk(0, 27), STATE);
        }
        HallCarrier y = Due.hallOf(CORRIDOR);
        y.person(WALKS, 0);
        due.is("not a second step", y.walk(0, 2), STATE);
        due.is("one step", y.walk(0, 1), 0);
        due.is("another one", y.walk(0, 2), 1);
    }

    private void walkToCarriers() {
        due.by("STATE: ... or a CARRIER is there");
        HallCarrier x = Due.hallOf(CORRIDOR);
        x.carrier(1, 0);
        x.carrier(3, 0);
        x.person(WALKS, 2);
        x.person(SUDDEN, 2);
        x.person(STANDS, 1);
        x.person(BLOCKS, 4);
        due.is("to the first carrier", x.walk(0, 1), STATE);
        due.is("to the second carrier", x.walk(0, 3), STATE);
        due.is("who blocks, to a carrier", x.walk(3, 3), STATE);
        due.is("to stay on a carrier's cell", x.walk(2, 1), STATE);
        due.is("at(2, 0)", x.at(2, 0), 1);
        due.is("over a carrier's cell", x.walk(1, 4), 2);
        due.is("and over it back, beyond", x.walk(1, 1), STATE);
        due.is("where none is", x.walk(0, 2), 2);
        due.is("at(0, 0)", x.at(0, 0), 2);
    }

    private void walkBeyond() {
        due.by("walk: a CELL where it COULD BE in 1 TICK (FREE CELLS)");
        HallCarrier x = Due.hallOf("#./D./..");
        x.person(WALKS, 9);
        due.is("a SHUT door", x.walk(0, 8), STATE);
        x.person(SUDDEN, 9);
        due.is("a wall", x.walk(1, 0), STATE);
        x.door(0, 1);
        due.is("an open door", x.walk(0, 8), 9);
        due.is("a wall", x.walk(0, 0), STATE);
        HallCarrier y = Due.hallOf(Due.floors(8, 8));
        y.person(SUDDEN, 7);
        y.person(SUDDEN, 56);
        due.is("over the border to the right", y.walk(0, 8), STATE);
        due.is("over the border to the left", y.walk(1, 55), STATE);
        due.is("over the border below", y.walk(1, 0), STATE);
        due.is("over the border above", y.walk(0, 63), STATE);
    }

    private void walksRefusals() {
        due.by("A PERSON goes to a CELL: where it was. BAD; STATE");
        HallCarrier x = Due.hallOf(".#./...");
        due.is("nobody", x.walk(0, 0), BAD);
        for (int i = 0; i < 6; i++) {
            due.is("walk(" + i + ", 0) too early", x.walk(i, 0), BAD);
            x.person(WALKS, 0);
            due.is("walk(" + i + ", 0)", x.walk(i, 0), 0);
            due.is("walk(" + i + ", 8)", x.walk(i, 8), 0);
        }
        for (int i : NO_NUMBERS) {
            due.is("walk(" + i + ", 0)", x.walk(i, 0), BAD);
            due.is("BAD is ahead of STATE", x.walk(i, 1), BAD);
        }
        for (int cell : Due.NO_CELLS) {
            due.is("walk(5, " + cell + ")", x.walk(5, cell), BAD);
        }
        due.is("beyond in x", x.walk(0, 3), BAD);
        due.is("beyond in y", x.walk(0, 16), BAD);
        due.is("a wall", x.walk(0, 1), STATE);
        due.is("at(0, 0)", x.at(0, 0), 8);
        due.is("where it was", x.walk(0, 9), 8);
        due.is("where it was", x.walk(0, 10), 9);
    }

    private void ticksAtOnce() {
        due.by("n TICKS come (1 .. 50): TICK. BAD");
        HallCarrier x = new HallCarrier();
        for (int n : new int[] {0, 51, -1, -50, 52, 64, 256, Integer.MIN_VALUE, Integer.MAX_VALUE}) {
            due.is("tick(" + n + ")", x.tick(n), BAD);
        }
        due.is("count(6)", x.count(6), 0);
        due.is("tick(1)", x.tick(1), 1);
        due.is("tick(50)", x.tick(50), 51);
        due.is("tick(2)", x.tick(2), 53);
        due.is("tick(49)", x.tick(49), 102);
        due.is("count(6)", x.count(6), 102);
    }

    private void thousandTicks() {
        due.by("STATE: beyond 1000.");
        for (int n = 1; n <= 50; n++) {
            HallCarrier x = new HallCarrier();
            Due.tickTo(x, 1001 - n);
            due.is("to 1001 by " + n, x.tick(n), STATE);
            due.is("count(6)", x.count(6), 1001 - n);
            due.is("BAD is ahead of STATE", x.tick(51), BAD);
            if (n > 1) {
                due.is("to 1000 by " + (n - 1), x.tick(n - 1), 1000);
            }
            due.is("count(6)", x.count(6), 1000);
            due.is("one more", x.tick(1), STATE);
            due.is("50 more", x.tick(50), STATE);
            due.is("BAD is ahead of STATE", x.tick(0), BAD);
            due.is("BAD is ahead of STATE", x.tick(Integer.MAX_VALUE), BAD);
        }
        HallCarrier y = Due.hallOf("..D./####");
        y.carrier(0, 0);
        Due.tickTo(y, 1000);
        y.door(0, 1);
        due.is("refused", y.tick(1), STATE);
        due.is("nobody looks by it", y.age(0, 3), NONE);
        due.is("acts go on", y.act(0, 4), 0);
        due.is("line(0, 0)", y.line(0, 0), 1000);
        due.is("age(0, 3)", y.age(0, 3), 0);
    }

    private void ticksBehindBack() {
        due.by("IMAGES keep ... TICK; STATE: beyond 1000.");
        HallCarrier x = new HallCarrier();
        Due.tickTo(x, 999);
        x.keep(0);
        due.is("tick(1)", x.tick(1), 1000);
        x.keep(1);
        due.is("tick(1)", x.tick(1), STATE);
        due.is("back(0)", x.back(0), 999);
        due.is("tick(2)", x.tick(2), STATE);
        due.is("tick(1)", x.tick(1), 1000);
        x.back(0);
        due.is("back(1)", x.back(1), 1000);
        due.is("tick(1)", x.tick(1), STATE);
    }

    private void linesOfARun() {
        due.by("Of a LINE: 0 TICK, 1 CARRIER, 2 move wanted, 3 CELL behind it, 4 WHY.");
        HallCarrier x = Due.hallOf(Due.floors(8, 8));
        x.carrier(62, 0);
        x.carrier(0, 0);
        x.act(1, 0);
        Due.tickTo(x, 1000);
        x.act(0, 1);
        x.act(0, 4);
        x.act(1, 2);
        int[][] lines = {{0, 1, 0, 0, 1}, {1000, 0, 1, 63, 0}, {1000, 0, 4, 63, 0}, {1000, 1, 2, 8, 0}};
        for (int i = 0; i < lines.length; i++) {
            for (int what = 0; what < 5; what++) {
                due.is("line(" + i + ", " + what + ")", x.line(i, what), lines[i][what]);
            }
        }
        due.is("count(5)", x.count(5), 4);
    }

    private void linesRefusals() {
        due.by("line: BAD.");
        HallCarrier x = new HallCarrier();
        for (int what = 0; what < 5; what++) {
            due.is("no line", x.line(0, what), BAD);
        }
        x.carrier(0, 0);
        x.act(0, 4);
        for (int what = 0; what < 5; what++) {
            due.is("no second line", x.line(1, what), BAD);
        }
        for (int i : new int[] {-1, 1, 2, 99, 100, Integer.MIN_VALUE, Integer.MAX_VALUE, 858993460, -858993459}) {
            due.is("line(" + i + ", 0)", x.line(i, 0), BAD);
        }
        for (int what : new int[] {-1, 5, 6, 10, -5, 256, Integer.MIN_VALUE, Integer.MAX_VALUE}) {
            due.is("line(0, " + what + ")", x.line(0, what), BAD);
        }
        due.is("line(0, 2)", x.line(0, 2), 4);
        x.act(0, 4);
        // What stands behind a line's five is another line's.
        due.is("line(0, 5)", x.line(0, 5), BAD);
        due.is("line(1, -1)", x.line(1, -1), BAD);
    }

    private void agesAtFirst() {
        due.by("AGE of a CELL for a CARRIER: how many TICKS ago it SAW it last ... NONE: never");
        HallCarrier x = Due.hallOf("..#./..../###.");
        Due.tickTo(x, 3);
        x.carrier(0, 0);
        long seen = Due.cells(0, 1, 2, 8, 9, 16);
        for (int cell : new int[] {0, 1, 2, 3, 8, 9, 10, 11, 16, 17, 18, 19}) {
            due.is("age(0, " + cell + ")", x.age(0, cell), (seen >>> cell & 1) != 0 ? 0 : NONE);
        }
        x.tick(1);
        due.is("seen each tick", x.age(0, 16), 0);
        due.is("never yet", x.age(0, 19), NONE);
    }

    private void looksAsItIsPut() {
        due.by("it looks as it is put");
        HallCarrier x = Due.hallOf("..D./####");
        x.carrier(3, 0);
        x.tick(7);
        x.carrier(0, 0);
        due.is("the first one sees not what the second one does", x.age(0, 0), NONE);
        due.is("the second one", x.age(1, 0), 0);
        due.is("the second one, what the first one sees", x.age(1, 3), NONE);
        due.is("both", x.age(0, 2), 0);
        due.is("both", x.age(1, 2), 0);
    }

    private void looksAsATickComes() {
        due.by("it looks ... as a TICK comes");
        HallCarrier x = Due.hallOf("..D../#####");
        x.carrier(0, 0);
        x.carrier(4, 0);
        x.door(0, 1);
        due.is("not as a door opens", x.age(0, 4), NONE);
        due.is("nor the other one", x.age(1, 0), NONE);
        x.tick(1);
        due.is("as a tick comes", x.age(0, 4), 0);
        due.is("the other one too", x.age(1, 0), 0);
        x.door(0, 0);
        for (int n = 1; n <= 5; n++) {
            x.tick(1);
            due.is("ago", x.age(0, 4), n);
            due.is("ago for the other one", x.age(1, 0), n);
            due.is("still seen", x.age(0, 1), 0);
        }
        x.tick(50);
        due.is("ago behind 50 at once", x.age(0, 4), 55);
        due.is("still seen", x.age(0, 2), 0);
        x.door(0, 1);
        x.tick(50);
        due.is("seen by the last of 50", x.age(0, 4), 0);
    }

    private void looksAsItActs() {
        due.by("it looks ... as it ACTS");
        HallCarrier x = Due.hallOf("..D../#..../#####");
        x.carrier(0, 0);
        due.is("before", x.age(0, 10), NONE);
        x.act(0, 1);
        due.is("done: from where it is then", x.age(0, 10), 0);
        due.is("below it", x.age(0, 17), 0);
        x.door(0, 1);
        due.is("before", x.age(0, 4), NONE);
        x.act(0, 4);
        due.is("as it waits", x.age(0, 4), 0);
        HallCarrier y = Due.hallOf("..D../#####");
        y.carrier(0, 0);
        y.carrier(1, 0);
        y.door(0, 1);
        due.is("refused", y.act(0, 1), 2);
        due.is("as it is refused", y.age(0, 4), 0);
        due.is("the other one did not act", y.age(1, 4), NONE);
    }

    private void doorsThatOpen() {
        due.by("(doors that open ... change nothing of this ...)");
        HallCarrier x = Due.hallOf(".D./###");
        x.carrier(0, 0);
        x.tick(2);
        x.door(0, 1);
        due.is("behind it: never", x.age(0, 2), NONE);
        due.is("the door", x.age(0, 1), 0);
        x.tick(1);
        due.is("seen", x.age(0, 2), 0);
        x.door(0, 0);
        due.is("as it shuts", x.age(0, 2), 0);
        x.tick(1);
        due.is("ago", x.age(0, 2), 1);
        x.door(0, 1);
        due.is("as it opens", x.age(0, 2), 1);
    }

    private void hallReadAnew() {
        due.by("(... the HALL read anew change nothing of this but that all is as at first then)");
        HallCarrier x = Due.hallOf("..../####");
        x.carrier(0, 0);
        x.tick(9);
        Due.tell(x, ".#../####");
        x.hall();
        due.is("no carrier", x.age(0, 0), BAD);
        due.is("carrier(0, 0)", x.carrier(0, 0), 0);
        due.is("seen now", x.age(0, 0), 0);
        due.is("seen in the hall before, never in this one", x.age(0, 3), NONE);
        due.is("seen in the hall before, never in this one", x.age(0, 2), NONE);
    }

    private void oldestAge() {
        due.by("how many TICKS ago it SAW it last (TICKS to 1000)");
        HallCarrier x = Due.hallOf("..D./####");
        x.door(0, 1);
        x.carrier(0, 0);
        x.door(0, 0);
        Due.tickTo(x, 1000);
        due.is("1000 ago", x.age(0, 3), 1000);
        due.is("now", x.age(0, 2), 0);
        x.keep(0);
        x.back(0);
        due.is("1000 ago, kept", x.age(0, 3), 1000);
    }

    private void agesRefusals() {
        due.by("AGE; NONE. BAD.");
        HallCarrier x = Due.hallOf(".../...");
        due.is("no carrier", x.age(0, 0), BAD);
        x.carrier(0, 0);
        due.is("no second carrier", x.age(1, 0), BAD);
        for (int i : NO_NUMBERS) {
            due.is("age(" + i + ", 0)", x.age(i, 0), BAD);
        }
        for (int cell : Due.NO_CELLS) {
            due.is("age(0, " + cell + ")", x.age(0, cell), BAD);
        }
        due.is("beyond in x", x.age(0, 3), BAD);
        due.is("beyond in y", x.age(0, 16), BAD);
        x.carrier(10, 0);
        due.is("age(1, 10)", x.age(1, 10), 0);
        due.is("age(2, 0)", x.age(2, 0), BAD);
        // A cell beyond the first one's is not the second one's.
        due.is("age(0, 64)", x.age(0, 64), BAD);
        due.is("age(1, -64)", x.age(1, -64), BAD);
    }

    private void chargesByLoad() {
        due.by("MOVE 1. GO up, and twice its LOAD. WAIT up, and 1 with a LOAD. YIELD twice up. BACK up, and 3. RIDE up, and 4, and its LOAD. ASK up, and how many PEOPLE");
        int[] loads = {0, 1, 2, 9};
        int[][] charges = {{1, 1, 1, 2, 4, 5, 1}, {1, 3, 2, 4, 6, 6, 2}, {1, 5, 2, 4, 8, 7, 2}, {1, 19, 2, 4, 22, 14, 2}};
        for (int k = 0; k < loads.length; k++) {
            HallCarrier x = new HallCarrier();
            x.carrier(0, loads[k]);
            for (int kind = 0; kind < 7; kind++) {
                due.is("charge(" + kind + ", 0) with " + loads[k], x.charge(kind, 0), charges[k][kind]);
            }
        }
        HallCarrier y = new HallCarrier();
        y.carrier(0, 0);
        y.carrier(1, 9);
        due.is("of the first", y.charge(1, 0), 1);
        due.is("of the second", y.charge(1, 1), 19);
    }

    private void chargesByPeople() {
        due.by("ASK up, and how many PEOPLE it SEES now");
        HallCarrier x = Due.hallOf(".D./###");
        x.carrier(0, 0);
        x.carrier(2, 1);
        due.is("nobody", x.charge(6, 0), 1);
        x.person(WALKS, 0);
        due.is("one on its cell", x.charge(6, 0), 2);
        due.is("unseen by the other", x.charge(6, 1), 2);
        for (int i = 1; i < 6; i++) {
            x.person(STANDS, 2);
            due.is("unseen", x.charge(6, 0), 2);
            due.is("seen by the other", x.charge(6, 1), 2 + i);
        }
        x.door(0, 1);
        due.is("all six, now", x.charge(6, 0), 7);
        due.is("all six, of the other", x.charge(6, 1), 8);
        due.is("no other kind asks for people", x.charge(2, 0), 1);
    }

    private void chargesTraced() {
        due.by("(numbers in brackets come to THE TRACE as often as charge() asks that body ...)");
        long[] bodies = {1, 11, 101, 1101, 10011, 100001, 1000101};
        for (int kind = 0; kind < 7; kind++) {
            HallCarrier x = new HallCarrier();
            x.carrier(0, 9);
            due.is("at first", x.trace(), 0);
            x.charge(kind, 0);
            due.is("once", x.trace(), bodies[kind]);
            x.charge(kind, 0);
            due.is("twice", x.trace(), 2 * bodies[kind]);
        }
    }

    private void chargesRefusals() {
        due.by("CHARGE of a CARRIER as if by a KIND. BAD.");
        HallCarrier x = new HallCarrier();
        for (int kind = 0; kind < 7; kind++) {
            due.is("no carrier", x.charge(kind, 0), BAD);
        }
        x.carrier(0, 3);
        for (int kind : new int[] {-1, 7, 8, -7, 256, Integer.MIN_VALUE, Integer.MAX_VALUE}) {
            due.is("charge(" + kind + ", 0)", x.charge(kind, 0), BAD);
        }
        due.is("no second carrier", x.charge(0, 1), BAD);
        for (int i : NO_NUMBERS) {
            due.is("charge(6, " + i + ")", x.charge(6, i), BAD);
        }
        due.is("nothing came to the trace", x.trace(), 0);
        x.carrier(9, 0);
        due.is("charge(6, 1)", x.charge(6, 1), 1);
        due.is("charge(6, 2)", x.charge(6, 2), BAD);
    }
}
