/** Each promise with answers worked out by hand from the document. */
public final class PromiseTest {
    private static final int BAD = -1, STATE = -2, FULL = -3, NONE = -9;
    private static final int[] FAR_OUT = {-1, Integer.MIN_VALUE, Integer.MAX_VALUE, 1000, -64};
    private static final String OPEN_HALL = "......../......../......../......../......../......../......../........";
    private static final String CORRIDOR = "......../########";
    /** From cell 0 all is seen but cell 10. */
    private static final String NOOK = ".../##./###";
    private final Due due = new Due();

    public static void main(String[] args) {
        PromiseTest t = new PromiseTest();
        t.newObject();
        t.type();
        t.clear();
        t.hallFaults();
        t.hallRead();
        t.sign();
        t.door();
        t.sees();
        t.person();
        t.carrier();
        t.at();
        t.could();
        t.couldBlocks();
        t.anybody();
        t.let();
        t.soonest();
        t.act();
        t.walk();
        t.tick();
        t.line();
        t.age();
        t.charge();
        t.lost();
        t.look();
        t.step();
        t.tells();
        t.order();
        t.late();
        t.served();
        t.keepAndBack();
        t.backRefused();
        t.count();
        t.trace();
        t.due.end();
    }

    private void newObject() {
        HallCarrier x = new HallCarrier();
        int[] counts = {4, 0, 0, 0, 0, 0, 0, 0, 4};
        for (int what = 0; what < counts.length; what++) {
            due.is("new: count(" + what + ")", x.count(what), counts[what]);
        }
        for (int cell : new int[] {0, 1, 8, 9}) {
            due.is("new: sign(" + cell + ")", x.sign(cell), '.');
        }
        due.is("new: sign(2)", x.sign(2), BAD);
        due.is("new: sign(16)", x.sign(16), BAD);
        due.is("new: where()", x.where(), Due.cells(0, 1, 8, 9));
        due.is("new: trace()", x.trace(), 0);
        due.is("new: late()", x.late(), 0);
        due.is("new: back(0)", x.back(0), STATE);
        due.is("new: clear()", x.clear(), 0);
    }

    private void type() {
        HallCarrier x = new HallCarrier();
        due.is("type n = 0", x.type('.', 0), BAD);
        due.is("type n = 9", x.type('.', 9), BAD);
        for (int n : FAR_OUT) {
            due.is("type n = " + n, x.type('.', n), BAD);
        }
        // Only the lowest bytes count, the highest of them first: "#D/.1".
        due.is("type 2", x.type(0x7777777777772344L, 2), 2);
        due.is("type 3", x.type(0xFFFFFFFFFF2F2E31L, 3), 5);
        due.is("hall of it", x.hall(), 4);
        due.is("sign 0", x.sign(0), '#');
        due.is("sign 1", x.sign(1), 'D');
        due.is("sign 8", x.sign(8), '.');
        due.is("sign 9", x.sign(9), '1');
        for (int i = 1; i <= 9; i++) {
            due.is("type eight", x.type(-1L, 8), 8 * i);
        }
        due.is("type four", x.type(0, 4), 76);
        due.is("type five: 81", x.type(0, 5), FULL);
        due.is("bytes", x.count(7), 76);
        due.is("type four: 80", x.type(0, 4), 80);
        due.is("type one: 81", x.type(0, 1), FULL);
        due.is("BAD is ahead of FULL", x.type(0, 9), BAD);
        due.is("bytes stay", x.count(7), 80);
        due.is("high bytes can't stand", x.hall(), -10);
    }

    private void clear() {
        HallCarrier x = new HallCarrier();
        Due.tell(x, "../x");
        due.is("clear", x.clear(), 4);
        due.is("clear again", x.clear(), 0);
        due.is("bytes", x.count(7), 0);
        Due.tell(x, "../..");
        due.is("hall behind clear", x.hall(), 4);
    }

    private void hallFaults() {
        String[] texts = {"", ".", "..", "/..", "./..", "../", "../.", "../...", "../../", "........", ".........",
            "0./..", "d./..", "..\n..", ".. ..", "1./.1", "1./2.1", "DDDDDDDD/DDDDDDDD", "DDDD/DDDDD", "../../../../../../../..",
            "../../../../../../../../", "../../../../../../../.x", "../../../../../../../.", "..../...", "..../.../....",
            "123456789/.", "12345678/9.......", "12345678/9......9", "\u00ae\u00ae/..", "D:/..", "../-."};
        int[] faults = {0, 1, 2, 0, 1, 3, 4, 5, 6, 8, 8,
            0, 0, 2, 2, 4, 5, 9, 9, -1,
            23, 22, 22, 8, 8,
            8, -1, 16, 0, 1, 3};
        int[] cells = new int[texts.length];
        cells[19] = 16;
        cells[26] = 16;
        for (int i = 0; i < texts.length; i++) {
            int want = faults[i] < 0 ? cells[i] : -10 - faults[i];
            due.is("hall of '" + texts[i] + "'", Due.hallAnswer(texts[i]), want);
        }
        HallCarrier x = Due.hallOf("D./..");
        x.door(0, 1);
        x.carrier(0, 1);
        x.look(6, 0);
        x.tick(2);
        Due.tell(x, "../.");
        due.is("hall with a fault", x.hall(), -14);
        due.is("text stays", x.count(7), 4);
        due.is("carrier stays", x.count(3), 1);
        due.is("tick stays", x.count(6), 2);
        due.is("hall stays", x.sign(0), 'D');
        due.is("where it could be stays", x.where(), 1);
        Due.tell(x, "#");
        due.is("hall, the text made whole", x.hall(), 4);
    }

    private void hallRead() {
        due.is("largest", Due.hallAnswer(OPEN_HALL), 64);
        due.is("all bits", Due.hallOf(OPEN_HALL).where(), -1L);
        due.is("widest, lowest", Due.hallAnswer("......../........"), 16);
        due.is("no free cell", Due.hallAnswer("##/DD"), 4);
        HallCarrier x = Due.hallOf("D./..");
        x.door(0, 1);
        x.person(1, 1);
        x.carrier(9, 3);
        x.order(1, 8, 5);
        x.act(0, 4);
        x.tick(7);
        x.keep(0);
        x.keep(1);
        x.charge(0, 0);
        x.look(0, 0);
        Due.tell(x, "D../.1#");
        due.is("hall", x.hall(), 6);
        int[] counts = {6, 1, 0, 0, 0, 0, 0, 0, 4};
        for (int what = 0; what < counts.length; what++) {
            due.is("read anew: count(" + what + ")", x.count(what), counts[what]);
        }
        due.is("images are gone", x.back(0), STATE);
        due.is("images are gone", x.back(1), STATE);
        due.is("where it could be", x.where(), Due.cells(1, 2, 8, 9));
        due.is("the trace is not named", x.trace(), 1);
        due.is("late", x.late(), 0);
        due.is("door is shut", x.door(0, 1), 0);
        due.is("carrier anew", x.carrier(1, 0), 0);
        due.is("nothing seen from before", x.age(0, 10), 0);
        due.is("wall is seen", x.sign(10), '#');
    }

    private void sign() {
        HallCarrier x = Due.hallOf("..D.#/.#..1/2...9");
        int[] row = {'.', '.', 'D', '.', '#'};
        for (int k = 0; k < row.length; k++) {
            due.is("sign(" + k + ")", x.sign(k), row[k]);
        }
        due.is("sign(20)", x.sign(20), '9');
        due.is("sign(5)", x.sign(5), BAD);
        due.is("sign(13)", x.sign(13), BAD);
        due.is("sign(24)", x.sign(24), BAD);
        due.is("sign(63)", x.sign(63), BAD);
        due.is("sign(64)", x.sign(64), BAD);
        for (int cell : FAR_OUT) {
            due.is("sign(" + cell + ")", x.sign(cell), BAD);
        }
        x.door(0, 1);
        due.is("an open door's sign", x.sign(2), 'D');
    }

    private void door() {
        HallCarrier x = Due.hallOf(".D./D.D/...");
        due.is("door(1, 1)", x.door(1, 1), 0);
        due.is("doors are numbered as they stand", x.where(), Due.cells(0, 2, 8, 9, 16, 17, 18));
        due.is("door(1, 1) again", x.door(1, 1), 1);
        due.is("door(1, 0)", x.door(1, 0), 1);
        due.is("door(1, 0) again", x.door(1, 0), 0);
        due.is("door(3, 1)", x.door(3, 1), BAD);
        due.is("door(0, 2)", x.door(0, 2), BAD);
        due.is("door(0, -1)", x.door(0, -1), BAD);
        for (int i : FAR_OUT) {
            due.is("door(" + i + ", 1)", x.door(i, 1), BAD);
        }
        x.look(15, 9);
        due.is("a refused door", x.door(3, 1), BAD);
        due.is("changes nothing", x.where(), 0);
        due.is("a door told as it was", x.door(0, 0), 0);
        due.is("makes all possible", x.where(), Due.cells(0, 2, 9, 16, 17, 18));
        x.door(0, 1);
        x.door(1, 1);
        x.door(2, 1);
        x.person(0, 1);
        x.carrier(8, 0);
        due.is("somebody is there", x.door(0, 0), STATE);
        due.is("a carrier is there", x.door(1, 0), STATE);
        due.is("open is not refused", x.door(0, 1), 1);
        x.order(10, 0, 5);
        due.is("an order is there", x.door(2, 0), STATE);
        HallCarrier y = Due.hallOf("D./..");
        y.door(0, 1);
        y.order(1, 0, 5);
        due.is("an order goes there", y.door(0, 0), STATE);
        due.is("it is open still", y.door(0, 1), 1);
    }

    private void sees() {
        HallCarrier x = Due.hallOf("...../..#../.....");
        due.is("sees a wall, not behind it", x.sees(8), Due.cells(0, 1, 8, 9, 10, 16, 17));
        due.is("from a wall", x.sees(10), Due.cells(1, 2, 3, 8, 9, 10, 11, 12, 17, 18, 19));
        due.is("from a corner", x.sees(0), Due.cells(0, 1, 2, 3, 4, 8, 9, 16));
        due.is("column behind a wall", x.sees(2), Due.cells(0, 1, 2, 3, 4, 9, 10, 11));
        HallCarrier y = Due.hallOf(".#/#.");
        due.is("beside in both", y.sees(0), Due.cells(0, 1, 8, 9));
        HallCarrier z = Due.hallOf("..D..D./#######");
        due.is("a shut door", z.sees(0), Due.cells(0, 1, 2, 8, 9));
        z.door(0, 1);
        due.is("an open door", z.sees(0), Due.cells(0, 1, 2, 3, 4, 5, 8, 9));
        z.door(1, 1);
        due.is("both open", z.sees(0), Due.cells(0, 1, 2, 3, 4, 5, 6, 8, 9));
        due.is("nothing beyond", z.sees(6), Due.cells(0, 1, 2, 3, 4, 5, 6, 13, 14));
        HallCarrier w = Due.hallOf(OPEN_HALL);
        long lastRow = 0xFF00000000000000L;
        due.is("last corner", w.sees(63), lastRow | 0x8080808080808080L | 1L << 54);
        for (int cell : FAR_OUT) {
            due.is("sees(" + cell + ")", z.sees(cell), BAD);
        }
        due.is("beyond in x", z.sees(7), BAD);
        due.is("beyond in y", z.sees(16), BAD);
    }

    private void person() {
        HallCarrier x = Due.hallOf("D#./...");
        due.is("kind 4", x.person(4, 2), BAD);
        due.is("kind -1", x.person(-1, 2), BAD);
        due.is("cell beyond", x.person(0, 3), BAD);
        due.is("cell -1", x.person(0, -1), BAD);
        due.is("wall", x.person(0, 1), STATE);
        due.is("shut door", x.person(0, 0), STATE);
        x.door(0, 1);
        due.is("open door", x.person(0, 0), 0);
        x.carrier(8, 0);
        due.is("a carrier's cell", x.person(1, 8), 1);
        for (int i = 2; i < 6; i++) {
            due.is("any number on one", x.person(i % 4, 8), i);
        }
        due.is("the seventh", x.person(0, 2), FULL);
        due.is("STATE is ahead of FULL", x.person(0, 1), STATE);
        due.is("BAD is ahead of STATE", x.person(4, 1), BAD);
        due.is("six", x.count(2), 6);
    }

    private void carrier() {
        HallCarrier x = Due.hallOf("D#./...");
        due.is("load 10", x.carrier(2, 10), BAD);
        due.is("load -1", x.carrier(2, -1), BAD);
        due.is("cell beyond", x.carrier(3, 0), BAD);
        due.is("wall", x.carrier(1, 0), STATE);
        due.is("shut door", x.carrier(0, 0), STATE);
        x.person(0, 2);
        due.is("a person's cell", x.carrier(2, 9), 0);
        due.is("a carrier's cell", x.carrier(2, 0), STATE);
        due.is("the second", x.carrier(8, 0), 1);
        due.is("the third", x.carrier(9, 0), FULL);
        due.is("STATE is ahead of FULL", x.carrier(8, 0), STATE);
        due.is("BAD is ahead of STATE", x.carrier(1, 10), BAD);
        due.is("two", x.count(3), 2);
    }

    private void at() {
        HallCarrier x = Due.hallOf("..../....");
        x.person(2, 3);
        x.person(3, 8);
        x.carrier(9, 7);
        int[][] rows = {{0, 0, 3}, {1, 0, 8}, {0, 1, 9}, {0, 2, 2}, {1, 2, 3}, {0, 3, 7},
            {2, 0, BAD}, {1, 1, BAD}, {2, 2, BAD}, {1, 3, BAD}, {0, 4, BAD}, {0, -1, BAD}, {-1, 0, BAD}, {-1, 1, BAD}};
        for (int[] r : rows) {
            due.is("at(" + r[0] + ", " + r[1] + ")", x.at(r[0], r[1]), r[2]);
        }
        for (int i : FAR_OUT) {
            due.is("at(" + i + ", 0)", x.at(i, 0), BAD);
            due.is("at(" + i + ", 3)", x.at(i, 3), BAD);
            due.is("at(0, " + i + ")", x.at(0, i), BAD);
        }
    }

    private void could() {
        HallCarrier x = Due.hallOf(OPEN_HALL);
        x.person(0, 27);
        x.person(1, 27);
        x.person(2, 27);
        x.person(1, 7);
        x.person(1, 56);
        due.is("stands", x.could(0, 20), Due.cells(27));
        due.is("walks 0", x.could(1, 0), Due.cells(27));
        due.is("walks 1", x.could(1, 1), Due.cells(27, 19, 28, 35, 26));
        due.is("walks 2", Long.bitCount(x.could(1, 2)), 13);
        due.is("sudden 0", x.could(2, 0), Due.cells(27));
        due.is("sudden 1 is walks 2", x.could(2, 1), x.could(1, 2));
        due.is("sudden 3 is walks 6", x.could(2, 3), x.could(1, 6));
        due.is("last column", x.could(3, 1), Due.cells(6, 7, 15));
        due.is("first column", x.could(4, 1), Due.cells(48, 56, 57));
        due.is("walks 14 from a corner", x.could(3, 14), -1L);
        due.is("walks 13 from a corner", x.could(3, 13), ~Due.cells(56));
        due.is("ticks 21", x.could(0, 21), BAD);
        due.is("ticks -1", x.could(0, -1), BAD);
        due.is("no such person", x.could(5, 1), BAD);
        for (int i : FAR_OUT) {
            due.is("could(" + i + ", 1)", x.could(i, 1), BAD);
            due.is("could(0, " + i + ")", x.could(0, i), BAD);
        }
        HallCarrier y = Due.hallOf("..D./#.##");
        y.person(1, 0);
        y.carrier(1, 0);
        due.is("shut door, walls, a carrier", y.could(0, 20), Due.cells(0, 1, 9));
        y.door(0, 1);
        due.is("open door", y.could(0, 3), Due.cells(0, 1, 2, 3, 9));
    }

    private void couldBlocks() {
        HallCarrier x = Due.hallOf(OPEN_HALL);
        x.person(3, 18);
        due.is("no carrier: it stays", x.could(0, 20), Due.cells(18));
        x.carrier(0, 0);
        due.is("nearer 1", x.could(0, 1), Due.cells(18, 10, 17));
        due.is("nearer 2", x.could(0, 2), Due.cells(18, 10, 17, 2, 9, 16));
        due.is("nearer 20", x.could(0, 20), Due.cells(0, 1, 2, 8, 9, 10, 16, 17, 18));
        x.carrier(63, 0);
        due.is("nearer to some", x.could(0, 1), Due.cells(18, 10, 17, 19, 26));
        due.is("anywhere", x.could(0, 20), -1L);
        HallCarrier y = Due.hallOf(OPEN_HALL);
        y.carrier(16, 0);
        y.carrier(23, 0);
        y.person(3, 18);
        y.person(3, 16);
        y.person(3, 34);
        due.is("between two in a row", y.could(0, 20), 0xFF0000L);
        due.is("on a carrier's cell", y.could(1, 1), Due.cells(16, 17));
        due.is("below both", y.could(2, 1), Due.cells(34, 26, 33, 35));
        HallCarrier z = Due.hallOf("../..");
        z.carrier(9, 0);
        z.person(3, 9);
        z.person(3, 0);
        due.is("with the only carrier", z.could(0, 20), Due.cells(9));
        due.is("to the lower right", z.could(1, 1), Due.cells(0, 1, 8));
        HallCarrier w = Due.hallOf("..#./....");
        w.carrier(3, 0);
        w.person(3, 0);
        due.is("no way around", w.could(0, 20), Due.cells(0, 1));
    }

    private void anybody() {
        HallCarrier x = Due.hallOf(NOOK);
        x.carrier(0, 0);
        due.is("0 ticks", x.anybody(0, 0), Due.cells(10));
        due.is("1 tick", x.anybody(0, 1), Due.cells(10, 2));
        due.is("2 ticks", x.anybody(0, 2), Due.cells(10, 2, 1));
        due.is("20 ticks", x.anybody(0, 20), Due.cells(10, 2, 1, 0));
        x.person(2, 10);
        due.is("a sudden one unseen walks", x.anybody(0, 1), Due.cells(10, 2));
        x.person(0, 0);
        due.is("its own cell too", x.anybody(0, 1), Due.cells(10, 2, 0));
        x.carrier(2, 0);
        due.is("all is seen: people alone", x.anybody(1, 0), Due.cells(10, 0));
        due.is("a sudden one seen", x.anybody(1, 1), Due.cells(10, 2, 1, 0));
        HallCarrier y = Due.hallOf("..D../#####");
        y.carrier(0, 0);
        due.is("behind a shut door", y.anybody(0, 20), Due.cells(3, 4));
        y.door(0, 1);
        due.is("nobody", y.anybody(0, 20), 0);
        due.is("ticks 21", y.anybody(0, 21), BAD);
        due.is("ticks -1", y.anybody(0, -1), BAD);
        due.is("no such carrier", y.anybody(1, 0), BAD);
        for (int i : FAR_OUT) {
            due.is("anybody(" + i + ", 0)", y.anybody(i, 0), BAD);
            due.is("anybody(0, " + i + ")", y.anybody(0, i), BAD);
        }
    }

    private void let() {
        HallCarrier x = Due.hallOf(OPEN_HALL);
        x.carrier(27, 0);
        due.is("all are let", x.let(0), 31);
        x.person(0, 19);
        due.is("one stands above", x.let(0), 30);
        x.person(1, 29);
        due.is("one walks from the right", x.let(0), 28);
        x.carrier(35, 0);
        due.is("a carrier below", x.let(0), 24);
        due.is("from there: above is a carrier", x.let(1) & 1, 0);
        x.person(2, 24);
        due.is("a sudden one comes two cells", x.let(0), 16);
        due.is("no such carrier", x.let(2), BAD);
        for (int i : FAR_OUT) {
            due.is("let(" + i + ")", x.let(i), BAD);
        }
        HallCarrier y = Due.hallOf("D#/.D");
        y.carrier(8, 0);
        due.is("shut doors", y.let(0), 16);
        y.door(0, 1);
        due.is("an open door", y.let(0), 17);
        HallCarrier z = Due.hallOf(NOOK);
        z.carrier(0, 0);
        z.person(1, 0);
        due.is("with one on its cell", z.let(0), 16);
    }

    private void soonest() {
        HallCarrier x = Due.hallOf("../..");
        x.carrier(0, 0);
        due.is("two ticks", x.soonest(0, 9, 0), 2);
        due.is("right first", x.soonest(0, 9, 1), 1);
        due.is("it is there", x.soonest(0, 0, 0), 0);
        due.is("it is there", x.soonest(0, 0, 1), NONE);
        x.person(0, 1);
        due.is("around", x.soonest(0, 9, 0), 2);
        due.is("down first", x.soonest(0, 9, 1), 2);
        due.is("to where one stands", x.soonest(0, 1, 0), NONE);
        due.is("to where one stands", x.soonest(0, 1, 1), NONE);
        x.carrier(8, 0);
        due.is("the other carrier is in the way", x.soonest(0, 9, 0), NONE);
        due.is("to the other carrier", x.soonest(0, 8, 0), NONE);
        due.is("what 2", x.soonest(0, 9, 2), BAD);
        due.is("what -1", x.soonest(0, 9, -1), BAD);
        due.is("beyond", x.soonest(0, 2, 0), BAD);
        due.is("no such carrier", x.soonest(2, 9, 0), BAD);
        HallCarrier y = Due.hallOf(CORRIDOR);
        y.carrier(0, 0);
        due.is("seven", y.soonest(0, 7, 0), 7);
        due.is("right", y.soonest(0, 7, 1), 1);
        due.is("a wall", y.soonest(0, 8, 0), STATE);
        due.is("BAD is ahead of STATE", y.soonest(0, 8, 2), BAD);
        y.person(1, 7);
        due.is("before one who comes", y.soonest(0, 3, 0), 3);
        due.is("too late", y.soonest(0, 4, 0), NONE);
        y.person(2, 7);
        due.is("a sudden one comes", y.soonest(0, 3, 0), NONE);
        due.is("before it", y.soonest(0, 2, 0), 2);
        HallCarrier z = Due.hallOf("../..");
        z.carrier(9, 0);
        due.is("up first", z.soonest(0, 0, 1), 0);
        HallCarrier w = Due.hallOf("../..");
        w.carrier(1, 0);
        due.is("down before left", w.soonest(0, 8, 1), 2);
        HallCarrier n = Due.hallOf(NOOK);
        n.carrier(0, 0);
        due.is("where somebody unseen could come", n.soonest(0, 2, 0), NONE);
        due.is("where none can come in time", n.soonest(0, 1, 0), 1);
        HallCarrier d = Due.hallOf(".D/..");
        d.carrier(0, 0);
        due.is("a shut door", d.soonest(0, 1, 0), STATE);
    }

    private void act() {
        HallCarrier x = Due.hallOf(CORRIDOR);
        x.carrier(1, 0);
        x.carrier(3, 0);
        due.is("beyond", x.act(0, 0), 1);
        due.is("a wall", x.act(0, 2), 1);
        due.is("done", x.act(0, 1), 0);
        due.is("at", x.at(0, 1), 2);
        due.is("a carrier", x.act(0, 1), 2);
        due.is("at", x.at(0, 1), 2);
        due.is("left", x.act(0, 3), 0);
        due.is("at", x.at(0, 1), 1);
        x.person(1, 6);
        due.is("one could come there", x.act(1, 1), 0);
        due.is("one could come there", x.act(1, 1), 3);
        due.is("it waited", x.at(1, 1), 4);
        due.is("wait", x.act(1, 4), 0);
        due.is("move 5", x.act(1, 5), BAD);
        due.is("move -1", x.act(1, -1), BAD);
        due.is("no such carrier", x.act(2, 4), BAD);
        due.is("lines", x.count(5), 8);
        due.is("no tick came", x.count(6), 0);
        HallCarrier y = Due.hallOf("../..");
        y.carrier(0, 0);
        y.carrier(1, 0);
        y.person(1, 1);
        due.is("the first of these: 2", y.act(0, 1), 2);
        for (int i = 1; i < 100; i++) {
            y.act(0, 4);
        }
        due.is("a hundred lines", y.count(5), 100);
        due.is("one more", y.act(0, 4), FULL);
        due.is("BAD is ahead of FULL", y.act(0, 5), BAD);
        due.is("a hundred lines still", y.count(5), 100);
        HallCarrier z = Due.hallOf("../..");
        z.carrier(9, 0);
        due.is("up", z.act(0, 0), 0);
        due.is("at", z.at(0, 1), 1);
        due.is("down", z.act(0, 2), 0);
        due.is("at", z.at(0, 1), 9);
    }

    private void walk() {
        HallCarrier x = Due.hallOf("..../....");
        x.person(1, 0);
        x.person(2, 0);
        x.person(0, 0);
        x.person(3, 11);
        due.is("one step", x.walk(0, 1), 0);
        due.is("two steps", x.walk(0, 3), STATE);
        due.is("it may stay", x.walk(0, 1), 1);
        due.is("aslant", x.walk(0, 8), STATE);
        due.is("aslant by a sudden one", x.walk(1, 9), 0);
        due.is("one who stands", x.walk(2, 1), STATE);
        due.is("one who stands stays", x.walk(2, 0), 0);
        due.is("one who blocks, no carrier", x.walk(3, 10), STATE);
        x.carrier(8, 0);
        due.is("one who blocks", x.walk(3, 10), 11);
        due.is("not away", x.walk(3, 11), STATE);
        due.is("one who blocks, aside", x.walk(3, 2), STATE);
        due.is("to a carrier", x.walk(1, 8), STATE);
        x.person(1, 8);
        due.is("to stay with a carrier", x.walk(4, 8), STATE);
        due.is("away from a carrier", x.walk(4, 0), 8);
        due.is("beyond", x.walk(0, 4), BAD);
        due.is("no such person", x.walk(5, 1), BAD);
        for (int i : FAR_OUT) {
            due.is("walk(" + i + ", 0)", x.walk(i, 0), BAD);
            due.is("walk(0, " + i + ")", x.walk(0, i), BAD);
        }
        due.is("where it is", x.at(1, 0), 9);
        HallCarrier y = Due.hallOf(CORRIDOR);
        y.carrier(1, 0);
        y.person(2, 0);
        due.is("a sudden one passes a carrier", y.walk(0, 2), 0);
    }

    private void tick() {
        HallCarrier x = new HallCarrier();
        due.is("tick(0)", x.tick(0), BAD);
        due.is("tick(51)", x.tick(51), BAD);
        for (int n : FAR_OUT) {
            due.is("tick(" + n + ")", x.tick(n), BAD);
        }
        due.is("tick(1)", x.tick(1), 1);
        for (int i = 1; i < 20; i++) {
            due.is("tick(50)", x.tick(50), 1 + 50 * i);
        }
        due.is("to 1001", x.tick(50), STATE);
        due.is("to 1000", x.tick(49), 1000);
        due.is("beyond", x.tick(1), STATE);
        due.is("BAD is ahead of STATE", x.tick(51), BAD);
        due.is("count(6)", x.count(6), 1000);
    }

    private void line() {
        HallCarrier x = Due.hallOf("../..");
        due.is("no line", x.line(0, 0), BAD);
        x.carrier(0, 0);
        x.carrier(9, 0);
        x.tick(3);
        x.act(0, 1);
        x.tick(4);
        x.act(1, 0);
        int[][] want = {{3, 0, 1, 1, 0}, {7, 1, 0, 9, 2}};
        for (int i = 0; i < 2; i++) {
            for (int what = 0; what < 5; what++) {
                due.is("line(" + i + ", " + what + ")", x.line(i, what), want[i][what]);
            }
        }
        due.is("line(2, 0)", x.line(2, 0), BAD);
        due.is("line(0, 5)", x.line(0, 5), BAD);
        for (int i : FAR_OUT) {
            due.is("line(" + i + ", 0)", x.line(i, 0), BAD);
            due.is("line(0, " + i + ")", x.line(0, i), BAD);
        }
    }

    private void age() {
        HallCarrier x = Due.hallOf("..D../#####/.....");
        x.tick(2);
        x.carrier(0, 0);
        due.is("it looks as it is put", x.age(0, 2), 0);
        due.is("never", x.age(0, 3), NONE);
        due.is("a wall aslant", x.age(0, 9), 0);
        due.is("a wall further on", x.age(0, 10), NONE);
        x.door(0, 1);
        due.is("a door opens", x.age(0, 3), NONE);
        x.tick(3);
        due.is("as a tick comes", x.age(0, 4), 0);
        x.door(0, 0);
        x.tick(5);
        due.is("five ago", x.age(0, 4), 5);
        due.is("seen now", x.age(0, 1), 0);
        x.act(0, 1);
        due.is("as it acts", x.age(0, 10), 0);
        x.door(0, 1);
        x.act(0, 0);
        due.is("as it acts, though refused", x.age(0, 4), 0);
        x.carrier(16, 0);
        due.is("another one saw it not", x.age(1, 0), NONE);
        due.is("another one", x.age(1, 20), 0);
        due.is("this one never", x.age(0, 20), NONE);
        due.is("beyond", x.age(0, 5), BAD);
        due.is("no such carrier", x.age(2, 0), BAD);
        for (int i : FAR_OUT) {
            due.is("age(" + i + ", 0)", x.age(i, 0), BAD);
            due.is("age(0, " + i + ")", x.age(0, i), BAD);
        }
    }

    private void charge() {
        HallCarrier x = Due.hallOf(NOOK);
        x.carrier(0, 5);
        x.carrier(2, 0);
        x.person(0, 10);
        x.person(1, 1);
        x.person(2, 1);
        int[] loaded = {1, 11, 2, 4, 14, 10, 4};
        int[] empty = {1, 1, 1, 2, 4, 5, 4};
        for (int kind = 0; kind < 7; kind++) {
            due.is("charge(" + kind + ", 0)", x.charge(kind, 0), loaded[kind]);
            due.is("charge(" + kind + ", 1)", x.charge(kind, 1), empty[kind]);
        }
        long before = x.trace();
        due.is("charge(7, 0)", x.charge(7, 0), BAD);
        due.is("charge(-1, 0)", x.charge(-1, 0), BAD);
        due.is("charge(0, 2)", x.charge(0, 2), BAD);
        for (int i : FAR_OUT) {
            due.is("charge(" + i + ", 0)", x.charge(i, 0), BAD);
            due.is("charge(0, " + i + ")", x.charge(0, i), BAD);
        }
        due.is("the trace stays", x.trace(), before);
    }

    private void lost() {
        HallCarrier x = Due.hallOf(".D/#1");
        due.is("lost", x.lost(), 2);
        due.is("where", x.where(), Due.cells(0, 9));
        x.look(15, 0);
        due.is("none is left", x.where(), 0);
        due.is("lost", x.lost(), 2);
        due.is("where", x.where(), Due.cells(0, 9));
        HallCarrier y = Due.hallOf("##/##");
        due.is("nowhere", y.lost(), 0);
        due.is("nowhere", y.where(), 0);
    }

    private void look() {
        HallCarrier x = Due.hallOf("..2/.1./.#.");
        due.is("right and down", x.look(6, 0), 1);
        due.is("where", x.where(), Due.cells(0));
        x.lost();
        due.is("a mark", x.look(11, 1), 1);
        due.is("where", x.where(), Due.cells(9));
        x.lost();
        due.is("a mark with other bits", x.look(15, 1), 0);
        x.lost();
        due.is("no mark", x.look(11, 0), 0);
        x.lost();
        due.is("up alone", x.look(1, 0), 2);
        due.is("where", x.where(), Due.cells(16, 18));
        due.is("looks go on", x.look(6, 0), 0);
        x.lost();
        due.is("no such mark", x.look(6, 9), 0);
        x.lost();
        for (int i : FAR_OUT) {
            due.is("look(" + i + ", 0)", x.look(i, 0), BAD);
            due.is("look(0, " + i + ")", x.look(0, i), BAD);
        }
        due.is("look(16, 0)", x.look(16, 0), BAD);
        due.is("look(0, 10)", x.look(0, 10), BAD);
        due.is("nothing changed", Long.bitCount(x.where()), 8);
        HallCarrier y = Due.hallOf(".D/..");
        due.is("a shut door is not free", y.look(4, 0), 1);
        y.door(0, 1);
        due.is("an open one is", y.look(6, 0), 1);
        due.is("bits of the last corner", new HallCarrier().look(9, 0), 1);
    }

    private void step() {
        HallCarrier x = Due.hallOf("../.#");
        due.is("right", x.step(1), 2);
        due.is("where", x.where(), Due.cells(1, 8));
        due.is("up", x.step(0), 2);
        due.is("where", x.where(), Due.cells(1, 0));
        due.is("left", x.step(3), 1);
        due.is("where", x.where(), Due.cells(0));
        due.is("down", x.step(2), 1);
        due.is("where", x.where(), Due.cells(8));
        due.is("step(4)", x.step(4), BAD);
        for (int d : FAR_OUT) {
            due.is("step(" + d + ")", x.step(d), BAD);
        }
        due.is("where", x.where(), Due.cells(8));
        HallCarrier y = Due.hallOf(OPEN_HALL);
        due.is("from the last column none goes to the next row", y.step(1), 56);
        due.is("where", y.where(), ~0x0101010101010101L);
        HallCarrier z = Due.hallOf(".D/..");
        due.is("against a shut door", z.step(1), 2);
        due.is("where", z.where(), Due.cells(0, 9));
    }

    private void tells() {
        // After any step in a square of floors at most two looks of the four are left.
        HallCarrier x = new HallCarrier();
        due.is("square", x.tells(0), 0);
        due.is("square", x.tells(1), 2);
        HallCarrier y = Due.hallOf("../.#");
        // Free: 0 (looks 6), 1 (8), 8 (1). Up: 0, 1. Right: 1, 8. Down: 8, 1. Left: 0, 8.
        due.is("equal: the first", y.tells(0), 0);
        due.is("equal", y.tells(1), 2);
        HallCarrier z = Due.hallOf("#.#/.../###");
        // Free: 1 (4), 8 (2), 9 (11), 10 (8). Up: 1, 8, 10. Right: 1, 9, 10. Down: 8, 9, 10. Left: 1, 8, 9.
        due.is("cross", z.tells(1), 3);
        HallCarrier w = Due.hallOf("..../####");
        // Free: 0 (2), 1 (10), 2 (10), 3 (8). Up: all stay: 3 looks. Right: 1, 2, 3: 2. Left: 2.
        due.is("row: to stay tells most", w.tells(0), 0);
        due.is("row", w.tells(1), 3);
        HallCarrier v = Due.hallOf("#./#./#./#.");
        // A column: up leaves 1, 9, 17: two looks; right stays: three.
        due.is("column", v.tells(0), 1);
        due.is("column", v.tells(1), 3);
        HallCarrier m = Due.hallOf("1.2./####");
        // A mark makes a look unlike: up leaves all four, which are all unlike.
        due.is("marks", m.tells(1), 4);
        due.is("where is not changed", m.where(), Due.cells(0, 1, 2, 3));
        m.look(15, 0);
        due.is("none left", m.tells(0), 0);
        due.is("none left", m.tells(1), 0);
        due.is("tells(2)", m.tells(2), BAD);
        for (int i : FAR_OUT) {
            due.is("tells(" + i + ")", m.tells(i), BAD);
        }
    }

    private void order() {
        HallCarrier x = Due.hallOf("D#./...");
        due.is("from beyond", x.order(3, 8, 0), BAD);
        due.is("to beyond", x.order(8, 16, 0), BAD);
        due.is("due -1", x.order(8, 9, -1), BAD);
        due.is("due 201", x.order(8, 9, 201), BAD);
        due.is("from a wall", x.order(1, 9, 0), STATE);
        due.is("to a shut door", x.order(9, 0, 0), STATE);
        for (int i : FAR_OUT) {
            due.is("order(" + i + ", 8, 0)", x.order(i, 8, 0), BAD);
            due.is("order(8, " + i + ", 0)", x.order(8, i, 0), BAD);
            due.is("order(8, 8, " + i + ")", x.order(8, 8, i), BAD);
        }
        due.is("none yet", x.count(4), 0);
        x.door(0, 1);
        for (int i = 0; i < 6; i++) {
            due.is("an order", x.order(0, 2, i == 0 ? 0 : 200), i);
        }
        due.is("the seventh", x.order(0, 2, 0), FULL);
        due.is("STATE is ahead of FULL", x.order(0, 1, 0), STATE);
        due.is("BAD is ahead of STATE", x.order(0, 1, 201), BAD);
        due.is("six", x.count(4), 6);
    }

    private void late() {
        HallCarrier x = Due.hallOf(CORRIDOR);
        due.is("no orders, no carrier", x.late(), 0);
        x.order(2, 5, 4);
        due.is("no carrier", x.late(), STATE);
        x.carrier(0, 0);
        due.is("two there, three on", x.late(), 1);
        x.person(0, 3);
        due.is("people are not looked at", x.late(), 1);
        x.tick(4);
        due.is("from now on", x.late(), 5);
        x.carrier(4, 0);
        due.is("the other one is as near", x.late(), 5);
        x.act(1, 3);
        due.is("where one stands it goes not", x.at(1, 1), 4);
        x.order(6, 6, 200);
        due.is("no lateness is made less", x.late(), 5);
        x.order(4, 4, 6);
        due.is("each by one", x.late(), 5);
        HallCarrier y = Due.hallOf(".D./.#./.#.");
        y.carrier(8, 0);
        y.order(0, 2, 1);
        due.is("can't be come to", y.late(), STATE);
        y.door(0, 1);
        due.is("open: three steps", y.late(), 2);
        HallCarrier z = Due.hallOf(".D./.#.");
        z.carrier(0, 0);
        z.order(8, 8, 0);
        due.is("one step", z.late(), 1);
        z.carrier(2, 0);
        due.is("from some carrier it can't be come to", z.late(), STATE);
        HallCarrier w = Due.hallOf(".../.#./...");
        w.carrier(8, 0);
        w.order(8, 10, 0);
        due.is("around a wall", w.late(), 4);
        HallCarrier u = Due.hallOf(".#/#.");
        u.carrier(0, 0);
        u.order(0, 9, 0);
        due.is("an end can't be come to", u.late(), STATE);
    }

    private void served() {
        HallCarrier x = Due.hallOf(CORRIDOR);
        due.is("no such carrier", x.served(0, 0), BAD);
        x.carrier(0, 0);
        due.is("no orders", x.served(0, 0), NONE);
        x.order(5, 5, 200);
        x.order(1, 1, 200);
        x.order(3, 3, 200);
        due.is("none is late: by numbers", x.served(0, 0), 0);
        due.is("by numbers", x.served(0, 1), 1);
        due.is("by numbers", x.served(0, 2), 2);
        due.is("no more", x.served(0, 3), NONE);
        due.is("no more", x.served(0, 6), NONE);
        due.is("no more", x.served(0, Integer.MAX_VALUE), NONE);
        due.is("k = -1", x.served(0, -1), BAD);
        due.is("k least", x.served(0, Integer.MIN_VALUE), BAD);
        due.is("no such carrier", x.served(1, 0), BAD);
        x.carrier(7, 0);
        due.is("the other one has the least set", x.served(1, 0), NONE);
        x.order(7, 6, 1);
        due.is("but what is late else", x.served(1, 0), 3);
        due.is("that alone", x.served(1, 1), NONE);
        due.is("the rest", x.served(0, 2), 2);
        HallCarrier y = Due.hallOf(CORRIDOR);
        y.carrier(3, 0);
        y.order(0, 0, 0);
        y.order(4, 4, 0);
        // 0 first: 3 and 7; 1 first: 1 and 5.
        due.is("least late", y.late(), 6);
        due.is("nearest first", y.served(0, 0), 1);
        due.is("then", y.served(0, 1), 0);
        y.tick(1);
        due.is("a tick later", y.late(), 8);
        HallCarrier z = Due.hallOf(".#/#.");
        z.carrier(0, 0);
        z.order(9, 9, 1);
        due.is("STATE", z.served(0, 0), STATE);
        due.is("BAD is ahead of STATE", z.served(0, -1), BAD);
        HallCarrier w = Due.hallOf(CORRIDOR);
        w.carrier(3, 0);
        w.carrier(4, 0);
        w.order(2, 2, 0);
        w.order(5, 5, 0);
        // Each carrier one step; of equal sets the least number of carrier 1's.
        due.is("both", w.late(), 2);
        due.is("carrier 0", w.served(0, 0), 0);
        due.is("carrier 1", w.served(1, 0), 1);
    }

    private void keepAndBack() {
        HallCarrier x = Due.hallOf("..D./....");
        x.person(1, 0);
        x.carrier(9, 4);
        x.tick(5);
        x.act(0, 4);
        due.is("keep", x.keep(0), 5);
        due.is("keep(2)", x.keep(2), BAD);
        due.is("keep(-1)", x.keep(-1), BAD);
        x.tick(6);
        x.walk(0, 8);
        x.person(2, 3);
        x.carrier(0, 1);
        x.act(0, 1);
        x.door(0, 1);
        x.order(0, 3, 9);
        x.look(15, 0);
        x.charge(0, 0);
        due.is("keep the other", x.keep(1), 11);
        long where = x.where();
        due.is("back", x.back(0), 5);
        due.is("tick", x.count(6), 5);
        due.is("people", x.count(2), 1);
        due.is("carriers", x.count(3), 1);
        due.is("lines", x.count(5), 1);
        due.is("person's cell", x.at(0, 0), 0);
        due.is("carrier's cell", x.at(0, 1), 9);
        due.is("carrier's load", x.at(0, 3), 4);
        due.is("line", x.line(0, 0), 5);
        due.is("seen then", x.age(0, 2), 0);
        due.is("never seen then", x.age(0, 3), NONE);
        due.is("doors stay", x.door(0, 1), 1);
        due.is("orders stay", x.count(4), 1);
        due.is("the trace stays", x.trace(), 1);
        HallCarrier y = Due.hallOf("../..");
        y.keep(0);
        y.look(6, 0);
        y.back(0);
        due.is("where it could be stays", y.where(), 1);
        due.is("where it could be", where, 0);
        due.is("the other image", x.back(1), 11);
        due.is("people of it", x.count(2), 2);
        due.is("carriers of it", x.count(3), 2);
        due.is("lines of it", x.count(5), 2);
        due.is("walked", x.at(0, 0), 8);
        due.is("an image is kept apart from what comes", x.tick(1), 12);
        due.is("back again", x.back(1), 11);
        due.is("kept over", x.keep(0), 11);
        due.is("back to that", x.back(0), 11);
    }

    private void backRefused() {
        HallCarrier x = Due.hallOf(".D/D.");
        due.is("none was kept", x.back(0), STATE);
        due.is("none was kept", x.back(1), STATE);
        due.is("back(2)", x.back(2), BAD);
        for (int i : FAR_OUT) {
            due.is("back(" + i + ")", x.back(i), BAD);
            due.is("keep(" + i + ")", x.keep(i), BAD);
        }
        x.door(0, 1);
        x.door(1, 1);
        x.person(1, 1);
        x.keep(0);
        x.walk(0, 0);
        x.door(0, 0);
        x.tick(1);
        due.is("somebody would be on a shut door", x.back(0), STATE);
        due.is("nothing changes", x.count(6), 1);
        x.door(0, 1);
        due.is("it is open", x.back(0), 0);
        x.carrier(8, 0);
        x.keep(1);
        x.act(0, 0);
        due.is("refused by one who walks", x.at(0, 1), 8);
        x.walk(0, 1);
        x.back(0);
        due.is("the carrier is gone", x.count(3), 0);
        x.door(1, 0);
        due.is("a carrier would be on a shut door", x.back(1), STATE);
        x.door(1, 1);
        due.is("it is open", x.back(1), 0);
        due.is("the carrier is there", x.at(0, 1), 8);
        x.order(0, 0, 0);
        due.is("late by it", x.late(), 1);
        x.back(0);
        due.is("late without a carrier", x.late(), STATE);
    }

    private void count() {
        HallCarrier x = Due.hallOf("D.#/.D1");
        x.door(1, 1);
        x.person(0, 1);
        x.person(0, 1);
        x.person(0, 1);
        x.carrier(9, 0);
        x.carrier(8, 0);
        x.order(8, 8, 8);
        for (int i = 0; i < 5; i++) {
            x.act(0, 4);
        }
        x.tick(9);
        x.type(0, 7);
        int[] want = {6, 2, 3, 2, 1, 5, 9, 7, 4};
        for (int what = 0; what < want.length; what++) {
            due.is("count(" + what + ")", x.count(what), want[what]);
        }
        due.is("count(9)", x.count(9), BAD);
        for (int what : FAR_OUT) {
            due.is("count(" + what + ")", x.count(what), BAD);
        }
    }

    private void trace() {
        HallCarrier x = new HallCarrier();
        x.carrier(0, 1);
        long[] each = {1, 11, 101, 1101, 10011, 100001, 1000101};
        long sum = 0;
        for (int kind = 0; kind < each.length; kind++) {
            x.charge(kind, 0);
            sum += each[kind];
            due.is("trace behind kind " + kind, x.trace(), sum);
        }
        x.act(0, 1);
        x.tick(1);
        due.is("acts put nothing to it", x.trace(), sum);
        for (int i = 0; i < 300; i++) {
            x.charge(6, 0);
        }
        due.is("it goes on", x.trace(), sum + 300 * 1000101L);
    }
}
