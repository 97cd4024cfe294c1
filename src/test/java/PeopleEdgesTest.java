/** Promises 8 to 14: people, carriers, where they could be, moves that are let; a test for each sentence that names an edge. */
public final class PeopleEdgesTest {
    private static final int BAD = Due.BAD, STATE = Due.STATE, FULL = Due.FULL, NONE = Due.NONE;
    private static final int STANDS = 0, WALKS = 1, SUDDEN = 2, BLOCKS = 3;
    private static final int[] NO_TICKS = {-1, 21, -20, 22, 64, Integer.MIN_VALUE, Integer.MAX_VALUE};
    private static final int[] NO_NUMBERS = {-1, -2, 6, 7, 32, 64, Integer.MIN_VALUE, Integer.MAX_VALUE};
    private static final String CORRIDOR = Due.CORRIDOR;
    private static final String WINDING = Due.WINDING;
    private final Due due = new Due();

    public static void main(String[] args) {
        PeopleEdgesTest t = new PeopleEdgesTest();
        t.sixPeople();
        t.anyNumberOnOne();
        t.kinds();
        t.peopleOnFreeCells();
        t.personsRefusals();
        t.twoCarriers();
        t.unlikeCells();
        t.loads();
        t.carriersRefusals();
        t.whereTheyAre();
        t.noSuchBody();
        t.whoStands();
        t.whoWalks();
        t.whoIsSudden();
        t.whoBlocks();
        t.whoBlocksFromEachCell();
        t.whoBlocksAmongTwo();
        t.whoBlocksWhenCarriersChange();
        t.eachKindByItself();
        t.theHallsBorder();
        t.couldsRefusals();
        t.carriersAreNoWalls();
        t.anybodySeen();
        t.anybodyUnseen();
        t.anybodyOfEach();
        t.anybodysRefusals();
        t.waitIsLet();
        t.letAtBorders();
        t.letBesidePeople();
        t.letBesideCarriers();
        t.letsRefusals();
        t.soonestWhereItIs();
        t.soonestFarAndNear();
        t.soonestBeforeOthers();
        t.soonestFirstMove();
        t.soonestsRefusals();
        t.due.end();
    }

    /** The first cells of the winding way, up to so many steps from its beginning. */
    private static long way(int from, int to) {
        long set = 0;
        for (int k = from; k <= to; k++) {
            set |= 1L << wayCell(k);
        }
        return set;
    }

    private static int wayCell(int k) {
        int turn = k / 9;
        int within = k % 9;
        boolean right = turn % 2 == 0;
        if (within == 8) {
            return 8 * (2 * turn + 1) + (right ? 7 : 0);
        }
        return 8 * 2 * turn + (right ? within : 7 - within);
    }

    private void sixPeople() {
        due.by("PEOPLE (6 at most) ... A PERSON: its number. ... FULL");
        HallCarrier x = new HallCarrier();
        for (int i = 0; i < 6; i++) {
            due.is("count(2)", x.count(2), i);
            due.is("person", x.person(i % 4, i % 2), i);
        }
        for (int kind = 0; kind < 4; kind++) {
            due.is("the seventh", x.person(kind, 9), FULL);
        }
        due.is("count(2)", x.count(2), 6);
        for (int i = 0; i < 6; i++) {
            due.is("at(i, 0)", x.at(i, 0), i % 2);
            due.is("at(i, 2)", x.at(i, 2), i % 4);
        }
        due.is("at(6, 0)", x.at(6, 0), BAD);
    }

    private void anyNumberOnOne() {
        due.by("on FREE CELLS (any number on one)");
        HallCarrier x = new HallCarrier();
        x.carrier(9, 0);
        for (int i = 0; i < 6; i++) {
            due.is("on a carrier's cell", x.person(WALKS, 9), i);
        }
        for (int i = 0; i < 6; i++) {
            due.is("at(" + i + ", 0)", x.at(i, 0), 9);
        }
        due.is("charge by those it sees", x.charge(6, 0), 1 + 6);
        HallCarrier y = new HallCarrier();
        for (int i = 0; i < 6; i++) {
            y.person(WALKS, 0);
        }
        due.is("a carrier on the cell of six", y.carrier(0, 0), 0);
    }

    private void kinds() {
        due.by("have a KIND: 0 STANDS, 1 WALKS, 2 SUDDEN, 3 BLOCKS");
        HallCarrier x = new HallCarrier();
        for (int kind : new int[] {-1, 4, 5, -4, 256, Integer.MIN_VALUE, Integer.MAX_VALUE}) {
            due.is("person(" + kind + ", 0)", x.person(kind, 0), BAD);
        }
        due.is("count(2)", x.count(2), 0);
        for (int kind = 0; kind < 4; kind++) {
            due.is("person(" + kind + ", 0)", x.person(kind, 0), kind);
            due.is("at(i, 2)", x.at(kind, 2), kind);
        }
    }

    private void peopleOnFreeCells() {
        due.by("PEOPLE ... are on FREE CELLS ... STATE: the CELL is not FREE");
        HallCarrier x = Due.hallOf(".#D/19./...");
        due.is("a wall", x.person(0, 1), STATE);
        due.is("a SHUT door", x.person(0, 2), STATE);
        due.is("count(2)", x.count(2), 0);
        due.is("a floor", x.person(0, 0), 0);
        due.is("a mark", x.person(0, 8), 1);
        due.is("another mark", x.person(0, 9), 2);
        due.is("the last cell", x.person(0, 18), 3);
        x.door(0, 1);
        due.is("an open door", x.person(0, 2), 4);
    }

    private void personsRefusals() {
        due.by("person: BAD; STATE: the CELL is not FREE; FULL");
        HallCarrier x = Due.hallOf(".#./...");
        for (int cell : Due.NO_CELLS) {
            due.is("person(0, " + cell + ")", x.person(0, cell), BAD);
        }
        due.is("beyond in x", x.person(0, 3), BAD);
        due.is("beyond in x", x.person(0, 7), BAD);
        due.is("beyond in y", x.person(0, 16), BAD);
        due.is("BAD is ahead of STATE", x.person(4, 1), BAD);
        for (int i = 0; i < 6; i++) {
            x.person(0, 0);
        }
        due.is("STATE is ahead of FULL", x.person(0, 1), STATE);
        due.is("BAD is ahead of FULL", x.person(-1, 0), BAD);
        due.is("BAD is ahead of FULL", x.person(0, 3), BAD);
        due.is("BAD is ahead of all", x.person(4, 1), BAD);
        due.is("FULL", x.person(0, 0), FULL);
        due.is("count(2)", x.count(2), 6);
    }

    private void twoCarriers() {
        due.by("CARRIERS 0, 1 (2 at most) ... A CARRIER: its number. ... FULL");
        HallCarrier x = new HallCarrier();
        due.is("the first", x.carrier(0, 0), 0);
        due.is("count(3)", x.count(3), 1);
        due.is("the second", x.carrier(9, 0), 1);
        due.is("count(3)", x.count(3), 2);
        due.is("the third", x.carrier(1, 0), FULL);
        due.is("count(3)", x.count(3), 2);
        due.is("at(2, 1)", x.at(2, 1), BAD);
        due.is("at(0, 1)", x.at(0, 1), 0);
        due.is("at(1, 1)", x.at(1, 1), 9);
    }

    private void unlikeCells() {
        due.by("CARRIERS ... are on FREE CELLS, unlike ones ... STATE: the CELL is not FREE, or a CARRIER's");
        HallCarrier x = Due.hallOf(".#D/...");
        due.is("a wall", x.carrier(1, 0), STATE);
        due.is("a SHUT door", x.carrier(2, 0), STATE);
        due.is("count(3)", x.count(3), 0);
        due.is("the first", x.carrier(10, 0), 0);
        due.is("the same cell", x.carrier(10, 0), STATE);
        x.act(0, 3);
        due.is("where it is now", x.carrier(9, 0), STATE);
        due.is("count(3)", x.count(3), 1);
        due.is("where it was", x.carrier(10, 0), 1);
        HallCarrier y = Due.hallOf("D./..");
        y.door(0, 1);
        due.is("an open door", y.carrier(0, 0), 0);
        due.is("the last cell", y.carrier(9, 0), 1);
    }

    private void loads() {
        due.by("have a LOAD 0 .. 9");
        HallCarrier x = new HallCarrier();
        for (int load : new int[] {-1, 10, -9, 256, Integer.MIN_VALUE, Integer.MAX_VALUE}) {
            due.is("carrier(0, " + load + ")", x.carrier(0, load), BAD);
        }
        due.is("count(3)", x.count(3), 0);
        due.is("carrier(0, 0)", x.carrier(0, 0), 0);
        due.is("carrier(1, 9)", x.carrier(1, 9), 1);
        due.is("at(0, 3)", x.at(0, 3), 0);
        due.is("at(1, 3)", x.at(1, 3), 9);
        for (int load = 0; load <= 9; load++) {
            HallCarrier y = new HallCarrier();
            y.carrier(0, load);
            due.is("at(0, 3)", y.at(0, 3), load);
        }
    }

    private void carriersRefusals() {
        due.by("carrier: BAD; STATE: the CELL is not FREE, or a CARRIER's; FULL");
        HallCarrier x = Due.hallOf(".#./...");
        for (int cell : Due.NO_CELLS) {
            due.is("carrier(" + cell + ", 0)", x.carrier(cell, 0), BAD);
        }
        due.is("beyond in x", x.carrier(3, 0), BAD);
        due.is("beyond in y", x.carrier(16, 0), BAD);
        due.is("BAD is ahead of STATE", x.carrier(1, 10), BAD);
        x.carrier(0, 0);
        due.is("BAD is ahead of STATE", x.carrier(0, -1), BAD);
        x.carrier(2, 0);
        due.is("STATE is ahead of FULL: a wall", x.carrier(1, 0), STATE);
        due.is("STATE is ahead of FULL: the first one's", x.carrier(0, 0), STATE);
        due.is("STATE is ahead of FULL: the second one's", x.carrier(2, 0), STATE);
        due.is("BAD is ahead of FULL", x.carrier(8, 10), BAD);
        due.is("BAD is ahead of FULL", x.carrier(16, 0), BAD);
        due.is("FULL", x.carrier(8, 0), FULL);
        due.is("count(3)", x.count(3), 2);
    }

    private void whereTheyAre() {
        due.by("Where a PERSON (what = 0), CARRIER (1) is; the PERSON's KIND (2), the CARRIER's LOAD (3).");
        HallCarrier x = Due.hallOf("..../....");
        x.person(BLOCKS, 11);
        x.carrier(8, 5);
        due.is("at(0, 0)", x.at(0, 0), 11);
        due.is("at(0, 1)", x.at(0, 1), 8);
        due.is("at(0, 2)", x.at(0, 2), 3);
        due.is("at(0, 3)", x.at(0, 3), 5);
        for (int what : new int[] {-1, 4, 5, -4, 256, Integer.MIN_VALUE, Integer.MAX_VALUE}) {
            due.is("at(0, " + what + ")", x.at(0, what), BAD);
        }
        x.walk(0, 10);
        x.act(0, 0);
        due.is("at(0, 0) behind a walk", x.at(0, 0), 10);
        due.is("at(0, 1) behind an act", x.at(0, 1), 0);
        due.is("at(0, 2) stays", x.at(0, 2), 3);
        due.is("at(0, 3) stays", x.at(0, 3), 5);
    }

    private void noSuchBody() {
        due.by("at: BAD (there is no such thing)");
        HallCarrier people = new HallCarrier();
        people.person(0, 0);
        due.is("a person, no carrier: what 1", people.at(0, 1), BAD);
        due.is("a person, no carrier: what 3", people.at(0, 3), BAD);
        HallCarrier carriers = new HallCarrier();
        carriers.carrier(0, 0);
        due.is("a carrier, nobody: what 0", carriers.at(0, 0), BAD);
        due.is("a carrier, nobody: what 2", carriers.at(0, 2), BAD);
        HallCarrier full = new HallCarrier();
        for (int i = 0; i < 6; i++) {
            full.person(0, 1);
        }
        full.carrier(0, 0);
        full.carrier(9, 0);
        for (int what = 0; what < 4; what++) {
            for (int i : NO_NUMBERS) {
                due.is("at(" + i + ", " + what + ")", full.at(i, what), BAD);
            }
        }
        due.is("at(5, 0)", full.at(5, 0), 1);
        due.is("at(5, 2)", full.at(5, 2), 0);
        due.is("at(2, 1)", full.at(2, 1), BAD);
        due.is("at(5, 1)", full.at(5, 1), BAD);
        due.is("at(2, 3)", full.at(2, 3), BAD);
    }

    private void whoStands() {
        due.by("In a TICK one who STANDS goes nowhere");
        HallCarrier x = Due.hallOf(Due.floors(8, 8));
        x.person(STANDS, 27);
        x.carrier(28, 0);
        for (int t = 0; t <= 20; t++) {
            due.is("could(0, " + t + ")", x.could(0, t), Due.cells(27));
        }
        due.is("walk to the next cell", x.walk(0, 26), STATE);
        due.is("walk to its own", x.walk(0, 27), 27);
    }

    private void whoWalks() {
        due.by("who WALKS goes to a FREE CELL in a DIRECTION or stays ... COULD BE of a PERSON in t TICKS (0 .. 20)");
        HallCarrier x = Due.hallOf(WINDING);
        x.person(WALKS, 0);
        x.person(WALKS, 56);
        for (int t = 0; t <= 20; t++) {
            due.is("could(0, " + t + ")", x.could(0, t), way(0, t));
            due.is("could(1, " + t + ")", x.could(1, t), way(35 - t, 35));
        }
        due.is("FREE CELLS of the way", x.where(), way(0, 35));
        HallCarrier y = Due.hallOf("#./.#");
        y.person(WALKS, 1);
        due.is("not aslant", y.could(0, 20), Due.cells(1));
        HallCarrier z = Due.hallOf(".D/#.");
        z.person(WALKS, 0);
        due.is("a SHUT door", z.could(0, 20), Due.cells(0));
        z.door(0, 1);
        due.is("an open one", z.could(0, 1), Due.cells(0, 1));
        due.is("and behind it", z.could(0, 2), Due.cells(0, 1, 9));
    }

    private void whoIsSudden() {
        due.by("who is SUDDEN does so twice");
        HallCarrier x = Due.hallOf(WINDING);
        x.person(SUDDEN, 0);
        for (int t = 0; t <= 17; t++) {
            due.is("could(0, " + t + ")", x.could(0, t), way(0, 2 * t));
        }
        for (int t = 18; t <= 20; t++) {
            due.is("could(0, " + t + ")", x.could(0, t), way(0, 35));
        }
        due.is("walk by three", x.walk(0, 3), STATE);
        due.is("walk by two", x.walk(0, 2), 0);
        due.is("walk by one", x.walk(0, 1), 2);
        due.is("walk by none", x.walk(0, 1), 1);
        due.is("walk back by two", x.walk(0, 3), 1);
    }

    private void whoBlocks() {
        due.by("never away from all CARRIERS: to where x or y differ less from those of some CARRIER than now (added), or stays");
        HallCarrier x = Due.hallOf(Due.floors(8, 8));
        x.person(BLOCKS, 27);
        due.is("no carrier", x.could(0, 20), Due.cells(27));
        int[] carriers = {0, 3, 7, 24, 27, 31, 56, 59, 63};
        long[] oneTick = {Due.cells(27, 19, 26), Due.cells(27, 19), Due.cells(27, 19, 28), Due.cells(27, 26),
            Due.cells(27), Due.cells(27, 28), Due.cells(27, 35, 26), Due.cells(27, 35), Due.cells(27, 35, 28)};
        // All between the two, as a square of cells: columns from .. to, rows from .. to.
        int[][] squares = {{0, 3, 0, 3}, {3, 3, 0, 3}, {3, 7, 0, 3}, {0, 3, 3, 3}, {3, 3, 3, 3}, {3, 7, 3, 3},
            {0, 3, 3, 7}, {3, 3, 3, 7}, {3, 7, 3, 7}};
        for (int k = 0; k < carriers.length; k++) {
            HallCarrier y = Due.hallOf(Due.floors(8, 8));
            y.person(BLOCKS, 27);
            y.carrier(carriers[k], 0);
            due.is("0 ticks to " + carriers[k], y.could(0, 0), Due.cells(27));
            due.is("1 tick to " + carriers[k], y.could(0, 1), oneTick[k]);
            due.is("20 ticks to " + carriers[k], y.could(0, 20), square(squares[k]));
        }
        HallCarrier wall = Due.hallOf("..#./....");
        wall.carrier(3, 0);
        wall.person(BLOCKS, 1);
        due.is("a wall, and around it is away", wall.could(0, 20), Due.cells(1));
    }

    private static long square(int[] s) {
        long set = 0;
        for (int y = s[2]; y <= s[3]; y++) {
            for (int x = s[0]; x <= s[1]; x++) {
                set |= 1L << 8 * y + x;
            }
        }
        return set;
    }

    private void whoBlocksFromEachCell() {
        due.by("x or y differ less from those of some CARRIER than now (added)");
        for (int carrier = 0; carrier < 64; carrier++) {
            HallCarrier x = Due.hallOf(Due.floors(8, 8));
            x.keep(0);
            for (int person = 0; person < 64; person++) {
                x.back(0);
                x.carrier(carrier, 0);
                x.person(BLOCKS, person);
                int dx = Integer.signum(carrier % 8 - person % 8);
                int dy = Integer.signum(carrier / 8 - person / 8);
                long nearer = 1L << person | 1L << person + dx | 1L << person + 8 * dy;
                due.is("from " + person + " to " + carrier, x.could(0, 1), nearer);
            }
        }
    }

    private void whoBlocksWhenCarriersChange() {
        due.by("(CARRIERS staying where they are)");
        HallCarrier x = Due.hallOf(CORRIDOR);
        x.person(BLOCKS, 4);
        x.keep(0);
        x.carrier(0, 0);
        due.is("to the left", x.could(0, 1), Due.cells(3, 4));
        x.back(0);
        due.is("no carrier any more", x.could(0, 20), Due.cells(4));
        x.carrier(7, 0);
        due.is("to the right", x.could(0, 1), Due.cells(4, 5));
        Due.tell(x, CORRIDOR);
        x.hall();
        x.person(BLOCKS, 0);
        due.is("in another hall", x.could(0, 20), Due.cells(0));
    }

    private void eachKindByItself() {
        due.by("COULD BE of a PERSON ...: all CELLS where it can be by these");
        HallCarrier x = Due.hallOf(CORRIDOR);
        x.carrier(4, 0);
        long[] oneTick = {Due.cells(0), Due.cells(6, 7), Due.cells(0, 1, 2), Due.cells(6, 7)};
        int[] cells = {0, 7, 0, 7};
        for (int kind = 0; kind < 4; kind++) {
            x.person(kind, cells[kind]);
        }
        for (int before = 0; before < 4; before++) {
            for (int kind = 0; kind < 4; kind++) {
                x.could(before, 20);
                due.is("kind " + kind + " asked behind " + before, x.could(kind, 1), oneTick[kind]);
                x.anybody(0, 20);
                due.is("kind " + kind + " asked behind all", x.could(kind, 1), oneTick[kind]);
            }
        }
        due.is("all of them", x.anybody(0, 1), Due.cells(0, 1, 2, 6, 7));
    }

    private void whoBlocksAmongTwo() {
        due.by("never away from all CARRIERS: ... less from those of some CARRIER than now");
        HallCarrier x = Due.hallOf(CORRIDOR);
        x.carrier(2, 0);
        x.person(BLOCKS, 4);
        x.person(BLOCKS, 2);
        due.is("to the left alone", x.could(0, 20), Due.cells(2, 3, 4));
        due.is("with the only one", x.could(1, 20), Due.cells(2));
        x.carrier(6, 0);
        due.is("away from one, to the other", x.could(0, 1), Due.cells(3, 4, 5));
        due.is("between them", x.could(0, 20), Due.cells(2, 3, 4, 5, 6));
        due.is("from one to the other", x.could(1, 1), Due.cells(2, 3));
        due.is("all the way", x.could(1, 4), Due.cells(2, 3, 4, 5, 6));
        due.is("not all of it", x.could(1, 3), Due.cells(2, 3, 4, 5));
        due.is("away from all is none could go", x.act(0, 3), 0);
        due.is("CARRIERS where they are now", x.could(1, 1), Due.cells(1, 2, 3));
        x.person(BLOCKS, 0);
        due.is("beyond both, to the nearer one's side", x.could(2, 1), Due.cells(0, 1));
    }

    private void theHallsBorder() {
        due.by("goes to a FREE CELL in a DIRECTION: 0 up (y less 1), 1 right, 2 down, 3 left");
        HallCarrier x = Due.hallOf(Due.floors(8, 8));
        int[] cells = {0, 7, 56, 63, 8, 15};
        long[] oneTick = {Due.cells(0, 1, 8), Due.cells(7, 6, 15), Due.cells(56, 48, 57), Due.cells(63, 55, 62),
            Due.cells(8, 0, 9, 16), Due.cells(15, 7, 14, 23)};
        for (int i = 0; i < cells.length; i++) {
            x.person(WALKS, cells[i]);
            due.is("could from " + cells[i], x.could(i, 1), oneTick[i]);
        }
        due.is("all in 14", x.could(0, 14), -1L);
        due.is("all but one in 13", x.could(0, 13), ~(1L << 63));
        due.is("walk over the border", x.walk(1, 8), STATE);
        due.is("walk over the border", x.walk(4, 7), STATE);
        HallCarrier small = Due.hallOf("../..");
        small.person(SUDDEN, 9);
        due.is("a small hall", small.could(0, 20), Due.cells(0, 1, 8, 9));
    }

    private void couldsRefusals() {
        due.by("COULD BE. -1: BAD. ... in t TICKS (0 .. 20)");
        HallCarrier x = new HallCarrier();
        due.is("nobody", x.could(0, 0), BAD);
        for (int i = 0; i < 6; i++) {
            due.is("could(" + i + ", 0) too early", x.could(i, 0), BAD);
            x.person(WALKS, 9);
            due.is("could(" + i + ", 0)", x.could(i, 0), Due.cells(9));
            due.is("could(" + i + ", 20)", x.could(i, 20), Due.cells(0, 1, 8, 9));
        }
        for (int i : NO_NUMBERS) {
            due.is("could(" + i + ", 1)", x.could(i, 1), BAD);
        }
        for (int t : NO_TICKS) {
            due.is("could(5, " + t + ")", x.could(5, t), BAD);
        }
    }

    private void carriersAreNoWalls() {
        due.by("(CELLS of CARRIERS are like others for PEOPLE.)");
        HallCarrier x = Due.hallOf(CORRIDOR);
        x.carrier(1, 0);
        x.carrier(2, 0);
        x.person(WALKS, 0);
        due.is("could(0, 3)", x.could(0, 3), Due.cells(0, 1, 2, 3));
        due.is("anybody(0, 3)", x.anybody(0, 3), Due.cells(0, 1, 2, 3));
        x.person(WALKS, 1);
        due.is("from a carrier's cell", x.could(1, 1), Due.cells(0, 1, 2));
    }

    private void anybodySeen() {
        due.by("COULD BE of all PEOPLE on CELLS that it SEES now (its own too)");
        HallCarrier x = Due.hallOf(CORRIDOR);
        x.carrier(3, 0);
        for (int t = 0; t <= 20; t++) {
            due.is("nobody, all is seen", x.anybody(0, t), 0);
        }
        x.person(STANDS, 3);
        due.is("on its own cell", x.anybody(0, 0), Due.cells(3));
        due.is("who stands there", x.anybody(0, 20), Due.cells(3));
        x.person(WALKS, 7);
        due.is("who walks", x.anybody(0, 2), Due.cells(3, 5, 6, 7));
        x.person(SUDDEN, 0);
        due.is("who is sudden", x.anybody(0, 1), Due.cells(0, 1, 2, 3, 6, 7));
        due.is("all", x.anybody(0, 2), Due.cells(0, 1, 2, 3, 4, 5, 6, 7));
        for (int kind = 0; kind < 4; kind++) {
            HallCarrier two = Due.hallOf(CORRIDOR);
            two.carrier(4, 0);
            two.person(kind, 0);
            two.person(kind, 7);
            long[] oneTick = {Due.cells(0, 7), Due.cells(0, 1, 6, 7), Due.cells(0, 1, 2, 5, 6, 7), Due.cells(0, 1, 6, 7)};
            due.is("two of kind " + kind, two.anybody(0, 1), oneTick[kind]);
        }
        HallCarrier y = Due.hallOf(CORRIDOR);
        y.carrier(3, 0);
        for (int i = 0; i < 5; i++) {
            y.person(STANDS, 0);
        }
        y.person(WALKS, 6);
        due.is("the sixth too", y.anybody(0, 1), Due.cells(0, 5, 6, 7));
    }

    private void anybodyUnseen() {
        due.by("and, of each FREE CELL that it does not SEE, of one there who WALKS");
        HallCarrier x = Due.hallOf(WINDING);
        x.carrier(0, 0);
        for (int t = 0; t <= 20; t++) {
            due.is("anybody(0, " + t + ")", x.anybody(0, t), way(Math.max(0, 8 - t), 35));
        }
        for (int kind = 0; kind < 4; kind++) {
            HallCarrier y = Due.hallOf(".../##./###");
            y.carrier(0, 0);
            y.person(kind, 10);
            due.is("of each kind unseen, 0 ticks", y.anybody(0, 0), Due.cells(10));
            due.is("of each kind unseen, 1 tick", y.anybody(0, 1), Due.cells(2, 10));
            due.is("of each kind unseen, 2 ticks", y.anybody(0, 2), Due.cells(1, 2, 10));
        }
        HallCarrier z = Due.hallOf("..D#/####");
        z.carrier(0, 0);
        due.is("none on a SHUT door, none on walls", z.anybody(0, 20), 0);
        HallCarrier w = Due.hallOf("..#D/####");
        w.carrier(0, 0);
        due.is("a SHUT door unseen", w.anybody(0, 20), 0);
        w.door(0, 1);
        due.is("an open door unseen", w.anybody(0, 20), Due.cells(3));
    }

    private void anybodyOfEach() {
        due.by("ANYBODY of a CARRIER ... on CELLS that it SEES now");
        HallCarrier x = Due.hallOf(".../##./###");
        x.carrier(0, 0);
        x.carrier(2, 0);
        due.is("what the other one sees is not seen", x.anybody(0, 0), Due.cells(10));
        due.is("the other one sees all", x.anybody(1, 20), 0);
        x.person(STANDS, 10);
        due.is("who stands, seen", x.anybody(1, 20), Due.cells(10));
        due.is("who stands, unseen, may walk", x.anybody(0, 1), Due.cells(2, 10));
        x.act(0, 1);
        due.is("it sees now from where it is now", x.anybody(0, 20), Due.cells(10));
        x.act(0, 3);
        due.is("what it saw is not what it sees", x.anybody(0, 1), Due.cells(2, 10));
    }

    private void anybodysRefusals() {
        due.by("ANYBODY. -1: BAD.");
        HallCarrier x = new HallCarrier();
        due.is("no carrier", x.anybody(0, 0), BAD);
        x.person(WALKS, 9);
        x.carrier(0, 0);
        due.is("anybody(1, 0) of one", x.anybody(1, 0), BAD);
        x.carrier(1, 0);
        due.is("anybody(1, 0) of two", x.anybody(1, 0), Due.cells(9));
        due.is("anybody(1, 20) of two", x.anybody(1, 20), Due.cells(0, 1, 8, 9));
        due.is("anybody(2, 0)", x.anybody(2, 0), BAD);
        for (int i : NO_NUMBERS) {
            due.is("anybody(" + i + ", 0)", x.anybody(i, 0), BAD);
        }
        for (int t : NO_TICKS) {
            due.is("anybody(0, " + t + ")", x.anybody(0, t), BAD);
        }
    }

    private void waitIsLet() {
        due.by("LET are of a CARRIER now: to wait (4)");
        HallCarrier x = Due.hallOf(".#/#.");
        x.carrier(0, 0);
        due.is("nowhere to go", x.let(0), 16);
        x.person(WALKS, 0);
        due.is("with one on its cell", x.let(0), 16);
        HallCarrier y = new HallCarrier();
        y.carrier(0, 0);
        for (int i = 0; i < 6; i++) {
            y.person(SUDDEN, 9);
        }
        due.is("though all could come to it", y.let(0), 16);
    }

    private void letAtBorders() {
        due.by("to go in a DIRECTION to a FREE CELL");
        int[] cells = {0, 3, 7, 24, 27, 31, 56, 59, 63};
        int[] moves = {6, 14, 12, 7, 15, 13, 3, 11, 9};
        for (int k = 0; k < cells.length; k++) {
            HallCarrier x = Due.hallOf(Due.floors(8, 8));
            x.carrier(cells[k], 0);
            due.is("let at " + cells[k], x.let(0), 16 + moves[k]);
        }
        String[] oneWay = {"#.#/#.#/###", "###/#../###", "###/#.#/#.#", "###/..#/###"};
        String[] oneWall = {".#./.../...", ".../..#/...", ".../.../.#.", ".../#../..."};
        String[] oneDoor = {".D./.../...", ".../..D/...", ".../.../.D.", ".../D../..."};
        for (int d = 0; d < 4; d++) {
            HallCarrier x = Due.hallOf(oneWay[d]);
            x.carrier(9, 0);
            due.is("one way: " + d, x.let(0), 16 + (1 << d));
            HallCarrier y = Due.hallOf(oneWall[d]);
            y.carrier(9, 0);
            due.is("one wall: " + d, y.let(0), 31 - (1 << d));
            HallCarrier z = Due.hallOf(oneDoor[d]);
            z.carrier(9, 0);
            due.is("a SHUT door: " + d, z.let(0), 31 - (1 << d));
            z.door(0, 1);
            due.is("an open door: " + d, z.let(0), 31);
        }
    }

    private int letWith(int kind, int cell) {
        HallCarrier x = Due.hallOf(CORRIDOR);
        x.carrier(3, 0);
        x.person(kind, cell);
        return x.let(0);
    }

    private void letBesidePeople() {
        due.by("that is not in ANYBODY's in 1 TICK");
        int both = 16 + 2 + 8;
        int left = 16 + 8;
        int[] standing = {both, left, both, both, both};
        int[] walking = {16, left, left, both, both};
        int[] sudden = {16, 16, left, left, both};
        int[] blocking = {both, left, left, both, both};
        for (int k = 0; k < 5; k++) {
            due.is("one stands by " + k, letWith(STANDS, 3 + k), standing[k]);
            due.is("one walks by " + k, letWith(WALKS, 3 + k), walking[k]);
            due.is("one is sudden by " + k, letWith(SUDDEN, 3 + k), sudden[k]);
            due.is("one blocks by " + k, letWith(BLOCKS, 3 + k), blocking[k]);
        }
        HallCarrier x = Due.hallOf(CORRIDOR);
        x.carrier(3, 0);
        x.person(BLOCKS, 3);
        due.is("one who blocks is with it", x.let(0), both);
        x.carrier(7, 0);
        due.is("and goes to the other one", x.let(0), left);
    }

    private void letBesideCarriers() {
        due.by("to a FREE CELL with no CARRIER on it");
        int[] beside = {1, 10, 17, 8};
        for (int d = 0; d < 4; d++) {
            HallCarrier x = Due.hallOf("..../..../....");
            x.carrier(9, 0);
            x.carrier(beside[d], 0);
            due.is("a carrier in direction " + d, x.let(0), 31 - (1 << d));
            due.is("seen from it", x.let(1) >> (d + 2) % 4 & 1, 0);
        }
        HallCarrier y = Due.hallOf("..../..../....");
        y.carrier(9, 0);
        y.carrier(11, 0);
        due.is("a carrier two cells away", y.let(0), 31);
    }

    private void letsRefusals() {
        due.by("Moves that are LET, as bits. BAD.");
        HallCarrier x = new HallCarrier();
        due.is("let(0) of none", x.let(0), BAD);
        x.carrier(0, 0);
        due.is("let(0) of one", x.let(0), 22);
        due.is("let(1) of one", x.let(1), BAD);
        x.carrier(9, 0);
        due.is("let(1) of two", x.let(1), 25);
        due.is("let(2) of two", x.let(2), BAD);
        for (int i : NO_NUMBERS) {
            due.is("let(" + i + ")", x.let(i), BAD);
        }
    }

    private void soonestWhereItIs() {
        due.by("SOONEST: TICKS (what = 0), FIRST MOVE (1; NONE: it is there)");
        HallCarrier x = new HallCarrier();
        x.carrier(9, 0);
        due.is("it is there: ticks", x.soonest(0, 9, 0), 0);
        due.is("it is there: move", x.soonest(0, 9, 1), NONE);
        x.person(SUDDEN, 9);
        due.is("though somebody is there too", x.soonest(0, 9, 0), 0);
        due.is("though somebody is there too", x.soonest(0, 9, 1), NONE);
        due.is("where somebody could come", x.soonest(0, 0, 0), NONE);
        due.is("where somebody could come", x.soonest(0, 0, 1), NONE);
    }

    private void soonestFarAndNear() {
        due.by("SOONEST to a CELL: the fewest TICKS (20 at most) by rows of moves");
        HallCarrier x = Due.hallOf(CORRIDOR);
        x.carrier(0, 0);
        for (int cell = 1; cell < 8; cell++) {
            due.is("soonest(0, " + cell + ", 0)", x.soonest(0, cell, 0), cell);
            due.is("soonest(0, " + cell + ", 1)", x.soonest(0, cell, 1), 1);
        }
        x.carrier(4, 0);
        due.is("before another carrier", x.soonest(0, 3, 0), 3);
        due.is("another carrier's", x.soonest(0, 4, 0), NONE);
        due.is("behind another carrier", x.soonest(0, 5, 0), NONE);
        due.is("behind another carrier", x.soonest(0, 5, 1), NONE);
        due.is("of the other one", x.soonest(1, 7, 0), 3);
        due.is("of the other one to the left", x.soonest(1, 1, 1), 3);
        HallCarrier y = Due.hallOf(".#/#.");
        y.carrier(0, 0);
        due.is("no way", y.soonest(0, 9, 0), NONE);
        due.is("no way", y.soonest(0, 9, 1), NONE);
    }

    private void soonestBeforeOthers() {
        due.by("nor in ANYBODY's in t TICKS (as known now)");
        // Against one who walks from the end: 7 - t is where it could be first.
        HallCarrier x = Due.hallOf(CORRIDOR);
        x.carrier(0, 0);
        x.person(WALKS, 7);
        due.is("cell 3 in 3: it could be at 4", x.soonest(0, 3, 0), 3);
        due.is("cell 4 in 4: it could be at 3", x.soonest(0, 4, 0), NONE);
        HallCarrier y = Due.hallOf(CORRIDOR);
        y.carrier(0, 0);
        y.person(WALKS, 6);
        due.is("cell 2 in 2: it could be at 4", y.soonest(0, 2, 0), 2);
        due.is("cell 3 in 3: it could be there", y.soonest(0, 3, 0), NONE);
        HallCarrier z = Due.hallOf(CORRIDOR);
        z.carrier(3, 0);
        z.person(STANDS, 5);
        due.is("before one who stands", z.soonest(0, 4, 0), 1);
        due.is("where one stands", z.soonest(0, 5, 0), NONE);
        due.is("behind one who stands", z.soonest(0, 6, 0), NONE);
        HallCarrier w = Due.hallOf(".../##./###");
        w.carrier(0, 0);
        due.is("one unseen could come: 1", w.soonest(0, 1, 0), 1);
        due.is("one unseen could come: 2", w.soonest(0, 2, 0), NONE);
        due.is("one unseen could be there", w.soonest(0, 10, 0), NONE);
        HallCarrier v = Due.hallOf(CORRIDOR);
        v.carrier(0, 0);
        v.person(SUDDEN, 7);
        due.is("cell 2 in 2: it could be at 3", v.soonest(0, 2, 0), 2);
        due.is("cell 3 in 3: it could be at 1", v.soonest(0, 3, 0), NONE);
    }

    private void soonestFirstMove() {
        due.by("FIRST MOVE: of such rows the first one's by moves 0, 1, 2, 3, 4");
        int[] goals = {2, 18, 16, 0};
        int[] first = {0, 1, 2, 0};
        for (int k = 0; k < 4; k++) {
            HallCarrier x = Due.hallOf(".../.../...");
            x.carrier(9, 0);
            due.is("two ticks to " + goals[k], x.soonest(0, goals[k], 0), 2);
            due.is("first move to " + goals[k], x.soonest(0, goals[k], 1), first[k]);
        }
        int[] second = {1, 2, 3, 3};
        int[] barred = {1, 10, 17, 1};
        for (int k = 0; k < 4; k++) {
            HallCarrier x = Due.hallOf(".../.../...");
            x.carrier(9, 0);
            x.person(STANDS, barred[k]);
            due.is("two ticks around to " + goals[k], x.soonest(0, goals[k], 0), 2);
            due.is("first move around to " + goals[k], x.soonest(0, goals[k], 1), second[k]);
        }
        int[] beside = {1, 10, 17, 8};
        for (int d = 0; d < 4; d++) {
            HallCarrier x = Due.hallOf(".../.../...");
            x.carrier(9, 0);
            due.is("one tick", x.soonest(0, beside[d], 0), 1);
            due.is("the move itself", x.soonest(0, beside[d], 1), d);
        }
    }

    private void soonestsRefusals() {
        due.by("soonest: BAD; STATE: the CELL is not FREE");
        HallCarrier x = Due.hallOf(".#D/...");
        due.is("no carrier", x.soonest(0, 0, 0), BAD);
        x.carrier(0, 0);
        due.is("no second carrier", x.soonest(1, 0, 0), BAD);
        for (int i : NO_NUMBERS) {
            due.is("soonest(" + i + ", 0, 0)", x.soonest(i, 0, 0), BAD);
        }
        for (int cell : Due.NO_CELLS) {
            due.is("soonest(0, " + cell + ", 0)", x.soonest(0, cell, 0), BAD);
        }
        for (int what : new int[] {-1, 2, 3, 256, Integer.MIN_VALUE, Integer.MAX_VALUE}) {
            due.is("soonest(0, 8, " + what + ")", x.soonest(0, 8, what), BAD);
            due.is("soonest(0, 0, " + what + ") where it is", x.soonest(0, 0, what), BAD);
            due.is("BAD is ahead of STATE", x.soonest(0, 1, what), BAD);
        }
        due.is("beyond in x", x.soonest(0, 3, 0), BAD);
        due.is("beyond in y", x.soonest(0, 16, 1), BAD);
        due.is("a wall", x.soonest(0, 1, 0), STATE);
        due.is("a wall", x.soonest(0, 1, 1), STATE);
        due.is("a SHUT door", x.soonest(0, 2, 0), STATE);
        due.is("no such carrier, a wall", x.soonest(1, 1, 0), BAD);
        x.door(0, 1);
        // The door's cell is unseen from the first one, so one could be there.
        due.is("an open door is not refused", x.soonest(0, 2, 0), NONE);
        x.carrier(10, 0);
        due.is("the second carrier to the door", x.soonest(1, 2, 0), 1);
    }
}
