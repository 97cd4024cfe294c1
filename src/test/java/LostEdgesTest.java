/** Promises 21 to 25: where a lost carrier could be; a test for each sentence that names an edge. */
public final class LostEdgesTest {
    private static final int BAD = Due.BAD, STATE = Due.STATE;
    private static final long FIRST_COLUMN = 0x0101010101010101L;
    private final Due due = new Due();

    public static void main(String[] args) {
        LostEdgesTest t = new LostEdgesTest();
        t.allAtFirst();
        t.onceTheHallIsRead();
        t.onceADoorIsTold();
        t.anywhere();
        t.noFreeCell();
        t.eachLook();
        t.lookAtBorders();
        t.lookForMarks();
        t.lookAtDoors();
        t.looksGoOn();
        t.looksRefusals();
        t.eachStep();
        t.stepAtBorders();
        t.stepsJoin();
        t.stepWithNoneLeft();
        t.stepsRefusals();
        t.tellsMost();
        t.tellsTheFirst();
        t.tellsByMarks();
        t.tellsWithNoneLeft();
        t.tellsOfFewLeft();
        t.tellsRefusals();
        t.nothingElseIsLost();
        t.due.end();
    }

    private void allAtFirst() {
        due.by("LOST: a set of FREE CELLS where it could be (all at first ...)");
        HallCarrier x = new HallCarrier();
        due.is("where()", x.where(), Due.cells(0, 1, 8, 9));
        due.is("lost()", x.lost(), 4);
        due.is("where()", x.where(), Due.cells(0, 1, 8, 9));
    }

    private void onceTheHallIsRead() {
        due.by("(all ... once THE HALL is read ...)");
        HallCarrier x = new HallCarrier();
        x.look(0, 0);
        due.is("none", x.where(), 0);
        Due.tell(x, "x");
        x.hall();
        due.is("a fault changes nothing", x.where(), 0);
        x.clear();
        Due.tell(x, "#1D/...");
        x.hall();
        due.is("floors and marks, no walls, no SHUT doors", x.where(), Due.cells(1, 8, 9, 10));
    }

    private void onceADoorIsTold() {
        due.by("(all ... once ... a door is told)");
        HallCarrier x = Due.hallOf("D./..");
        x.look(0, 0);
        due.is("none", x.where(), 0);
        due.is("opened", x.door(0, 1), 0);
        due.is("where()", x.where(), Due.cells(0, 1, 8, 9));
        x.look(0, 0);
        due.is("open as it was", x.door(0, 1), 1);
        due.is("where()", x.where(), Due.cells(0, 1, 8, 9));
        x.look(0, 0);
        due.is("shut", x.door(0, 0), 1);
        due.is("where()", x.where(), Due.cells(1, 8, 9));
        x.look(0, 0);
        due.is("SHUT as it was", x.door(0, 0), 0);
        due.is("where()", x.where(), Due.cells(1, 8, 9));
        x.door(0, 1);
        x.person(0, 0);
        x.look(0, 0);
        due.is("refused: STATE", x.door(0, 0), STATE);
        due.is("refused: BAD", x.door(1, 0), BAD);
        due.is("refused: BAD", x.door(0, 2), BAD);
        due.is("where()", x.where(), 0);
    }

    private void anywhere() {
        due.by("It could be anywhere (all FREE CELLS): how many.");
        HallCarrier x = Due.hallOf(Due.floors(8, 8));
        due.is("lost()", x.lost(), 64);
        x.look(15, 0);
        due.is("where() within", Long.bitCount(x.where()), 36);
        due.is("lost()", x.lost(), 64);
        due.is("where()", x.where(), -1L);
        HallCarrier y = Due.hallOf("#D/1D");
        due.is("one", y.lost(), 1);
        y.door(1, 1);
        due.is("two", y.lost(), 2);
        due.is("where()", y.where(), Due.cells(8, 9));
        y.carrier(8, 0);
        y.person(0, 9);
        due.is("carriers and people are no matter", y.lost(), 2);
    }

    private void noFreeCell() {
        due.by("all FREE CELLS: how many (none)");
        HallCarrier x = Due.hallOf("##/#D");
        due.is("lost()", x.lost(), 0);
        due.is("where()", x.where(), 0);
        due.is("look(0, 0)", x.look(0, 0), 0);
        for (int d = 0; d < 4; d++) {
            due.is("step(" + d + ")", x.step(d), 0);
        }
        due.is("tells(0)", x.tells(0), 0);
        due.is("tells(1)", x.tells(1), 0);
        x.door(0, 1);
        due.is("where() behind a door", x.where(), Due.cells(9));
        due.is("no FREE CELL beside it", x.look(0, 0), 1);
    }

    private void eachLook() {
        due.by("A LOOK tells bits (of DIRECTION d bit d, whether that CELL is FREE)");
        for (int bits = 0; bits < 16; bits++) {
            char[] sides = new char[4];
            for (int d = 0; d < 4; d++) {
                sides[d] = (bits >> d & 1) != 0 ? '.' : '#';
            }
            String hall = "#" + sides[0] + "#/" + sides[3] + "9" + sides[1] + "/#" + sides[2] + "#";
            for (int told = 0; told < 16; told++) {
                HallCarrier x = Due.hallOf(hall);
                due.is("look(" + told + ", 9) in " + hall, x.look(told, 9), told == bits ? 1 : 0);
                due.is("where()", x.where(), told == bits ? Due.cells(9) : 0);
            }
        }
    }

    private void lookAtBorders() {
        due.by("whether that CELL is FREE (none is beyond THE HALL)");
        int[] bits = {6, 14, 12, 7, 15, 13, 3, 11, 9};
        long inRow = 0x7EL;
        long inColumn = 0x0001010101010100L;
        long[] cells = {1L, inRow, 1L << 7, inColumn, 0x007E7E7E7E7E7E00L, inColumn << 7, 1L << 56, inRow << 56, 1L << 63};
        for (int k = 0; k < bits.length; k++) {
            HallCarrier x = Due.hallOf(Due.floors(8, 8));
            due.is("look(" + bits[k] + ", 0)", x.look(bits[k], 0), Long.bitCount(cells[k]));
            due.is("where()", x.where(), cells[k]);
        }
        HallCarrier y = Due.hallOf(Due.floors(3, 3));
        due.is("a small hall's last corner", y.look(9, 0), 1);
        due.is("where()", y.where(), Due.cells(18));
        HallCarrier z = Due.hallOf(Due.floors(3, 3));
        due.is("within a small hall", z.look(15, 0), 1);
        due.is("where()", z.where(), Due.cells(9));
    }

    private void lookForMarks() {
        due.by("and a MARK (0: none): those stay that are so");
        for (int mark = 1; mark <= 9; mark++) {
            HallCarrier x = Due.hallOf(".../." + mark + "./...");
            for (int told = 0; told <= 9; told++) {
                x.lost();
                due.is("look(15, " + told + ") with mark " + mark, x.look(15, told), told == mark ? 1 : 0);
            }
        }
        HallCarrier y = Due.hallOf("1../.../..9");
        due.is("no mark, with the bits of a mark", y.look(6, 0), 0);
        y.lost();
        due.is("a mark with other bits", y.look(9, 1), 0);
        y.lost();
        due.is("the first mark", y.look(6, 1), 1);
        y.lost();
        due.is("the last mark", y.look(9, 9), 1);
        due.is("where()", y.where(), Due.cells(18));
        y.lost();
        due.is("no mark", y.look(15, 0), 1);
    }

    private void lookAtDoors() {
        due.by("whether that CELL is FREE (FREE are floors, and doors that are not SHUT)");
        HallCarrier x = Due.hallOf("#D#/D.D/#D#");
        for (int open = 0; open < 16; open++) {
            // Doors stand up, left, right, down.
            int[] directions = {0, 3, 1, 2};
            for (int i = 0; i < 4; i++) {
                x.door(i, open >> directions[i] & 1);
            }
            x.lost();
            due.is("look(" + open + ", 0)", x.look(open, 0) > 0 ? x.where() >>> 9 & 1 : 0, 1);
        }
        HallCarrier y = Due.hallOf(".D/##");
        y.door(0, 1);
        due.is("an open door is a CELL where it could be", y.look(8, 0), 1);
        due.is("where()", y.where(), Due.cells(1));
    }

    private void looksGoOn() {
        due.by("A LOOK: how many are left.");
        HallCarrier x = Due.hallOf("..../####");
        due.is("first", x.look(10, 0), 2);
        due.is("where()", x.where(), Due.cells(1, 2));
        due.is("the same", x.look(10, 0), 2);
        due.is("another", x.look(2, 0), 0);
        due.is("none is left", x.look(10, 0), 0);
        due.is("where()", x.where(), 0);
    }

    private void looksRefusals() {
        due.by("BAD: bits 0 .. 15, MARK 0 .. 9.");
        HallCarrier x = Due.hallOf("12/34");
        for (int bits : new int[] {-1, 16, 17, -16, 22, 256, Integer.MIN_VALUE, Integer.MAX_VALUE}) {
            due.is("look(" + bits + ", 1)", x.look(bits, 1), BAD);
            due.is("where()", x.where(), Due.cells(0, 1, 8, 9));
        }
        for (int mark : new int[] {-1, 10, 11, -9, 49, 256, Integer.MIN_VALUE, Integer.MAX_VALUE}) {
            due.is("look(6, " + mark + ")", x.look(6, mark), BAD);
            due.is("where()", x.where(), Due.cells(0, 1, 8, 9));
        }
        due.is("look(0, 0)", x.look(0, 0), 0);
        x.lost();
        due.is("look(15, 9)", x.look(15, 9), 0);
        x.lost();
        due.is("look(15, 0)", x.look(15, 0), 0);
        x.lost();
        due.is("look(0, 9)", x.look(0, 9), 0);
        x.lost();
        due.is("look(6, 1)", x.look(6, 1), 1);
    }

    private void eachStep() {
        due.by("A STEP in a DIRECTION: from each CELL to that one, if it is FREE; else it stays there");
        int[] open = {1, 10, 17, 8};
        for (int d = 0; d < 4; d++) {
            HallCarrier x = Due.hallOf(".../.9./...");
            x.look(15, 9);
            due.is("step(" + d + ")", x.step(d), 1);
            due.is("where()", x.where(), Due.cells(open[d]));
            HallCarrier y = Due.hallOf("###/#9#/###");
            due.is("against a wall", y.step(d), 1);
            due.is("where()", y.where(), Due.cells(9));
            HallCarrier z = Due.hallOf("#D#/D9D/#D#");
            z.step(d);
            due.is("against a SHUT door", z.where(), Due.cells(9));
            for (int i = 0; i < 4; i++) {
                z.door(i, 1);
            }
            z.look(15, 9);
            z.step(d);
            due.is("to an open one", z.where(), Due.cells(open[d]));
        }
    }

    private void stepAtBorders() {
        due.by("DIRECTIONS: 0 up (y less 1), 1 right, 2 down, 3 left (a CELL at the border stays)");
        long[] all = {-1L >>> 8, ~FIRST_COLUMN, -1L << 8, ~(FIRST_COLUMN << 7)};
        int[] corners = {0, 7, 56, 63};
        int[][] ends = {{0, 1, 8, 0}, {7, 7, 15, 6}, {48, 57, 56, 56}, {55, 63, 63, 62}};
        String[] marked = {"9......./" + Due.floors(7, 8), ".......9/" + Due.floors(7, 8),
            Due.floors(7, 8) + "/9.......", Due.floors(7, 8) + "/.......9"};
        int[] bits = {6, 12, 3, 9};
        for (int d = 0; d < 4; d++) {
            HallCarrier x = Due.hallOf(Due.floors(8, 8));
            due.is("step(" + d + ") of all", x.step(d), 56);
            due.is("where()", x.where(), all[d]);
            for (int k = 0; k < 4; k++) {
                HallCarrier y = Due.hallOf(marked[k]);
                due.is("the corner " + corners[k], y.look(bits[k], 9), 1);
                due.is("step(" + d + ")", y.step(d), 1);
                due.is("where()", y.where(), 1L << ends[k][d]);
            }
        }
        HallCarrier z = Due.hallOf("../..");
        z.step(1);
        due.is("a small hall's border", z.where(), Due.cells(1, 9));
        z.step(2);
        due.is("a small hall's corner", z.where(), Due.cells(9));
        z.step(1);
        due.is("it stays there", z.where(), Due.cells(9));
    }

    private void stepsJoin() {
        due.by("A STEP: how many are left.");
        HallCarrier x = Due.hallOf("......../########");
        for (int k = 7; k >= 1; k--) {
            due.is("one fewer each", x.step(1), k);
        }
        due.is("the last one", x.where(), Due.cells(7));
        due.is("it stays", x.step(1), 1);
        due.is("back", x.step(3), 1);
        due.is("where()", x.where(), Due.cells(6));
    }

    private void stepWithNoneLeft() {
        due.by("A STEP ... from each CELL (none is left)");
        HallCarrier x = new HallCarrier();
        x.look(15, 0);
        for (int d = 0; d < 4; d++) {
            due.is("step(" + d + ")", x.step(d), 0);
            due.is("where()", x.where(), 0);
        }
    }

    private void stepsRefusals() {
        due.by("A STEP: how many are left. BAD.");
        HallCarrier x = new HallCarrier();
        for (int d : new int[] {-1, 4, 5, -4, 8, 256, Integer.MIN_VALUE, Integer.MAX_VALUE}) {
            due.is("step(" + d + ")", x.step(d), BAD);
            due.is("where()", x.where(), Due.cells(0, 1, 8, 9));
        }
        due.is("step(0)", x.step(0), 2);
        due.is("step(3)", x.step(3), 1);
    }

    private void tells(String hall, int direction, int unlike) {
        HallCarrier x = Due.hallOf(hall);
        long where = x.where();
        due.is("tells(0) in " + hall, x.tells(0), direction);
        due.is("tells(1) in " + hall, x.tells(1), unlike);
        due.is("it is only told", x.where(), where);
    }

    private void tellsMost() {
        due.by("TELLS MOST: that DIRECTION after whose STEP the unlike LOOKS are most");
        // Unlike looks after a step up, right, down, left:
        tells("#..#/....", 0, 4); // 4, 3, 3, 3
        tells(".#./.../#..", 1, 4); // 3, 4, 3, 3
        tells("..../#..#", 2, 4); // 3, 3, 4, 3
        tells("..#/.../.#.", 3, 4); // 3, 3, 3, 4
    }

    private void tellsTheFirst() {
        due.by("of several the first");
        // Unlike looks after a step up, right, down, left:
        tells(".../.../#..", 0, 5); // 5, 5, 4, 4
        tells("##/..", 0, 2); // 2, 1, 2, 1
        tells(".../.../..#", 0, 5); // 5, 4, 4, 5
        tells("..#./##..", 0, 3); // 3, 3, 3, 2
        tells(".../.#.", 0, 3); // 3, 3, 2, 3
        tells("..##/.#..", 0, 3); // 3, 2, 3, 3
        tells("../..", 0, 2); // 2, 2, 2, 2
        tells("#../.../...", 1, 5); // 4, 5, 5, 4
        tells("#./#.", 1, 2); // 1, 2, 1, 2
        tells(".#./...", 1, 3); // 2, 3, 3, 3
        tells("..#/.../...", 2, 5); // 4, 4, 5, 5
    }

    private void tellsByMarks() {
        due.by("the unlike LOOKS (bits and a MARK)");
        // Up and down all stay: four marks with three kinds of bits.
        tells("1234/####", 0, 4);
        // Without marks the two within look alike.
        tells("..../####", 0, 3);
        tells(".1../####", 0, 4);
        // One mark at each end changes nothing: their bits are unlike as they are.
        tells("1..2/####", 0, 3);
        // Up: eight marks. Right: seven marks, within, the corner. Down: a mark, within, the corner. Left: eight marks, within.
        tells("12345678/9......./######D#", 1, 9);
    }

    private void tellsWithNoneLeft() {
        due.by("(With no CELL left: 0.)");
        HallCarrier x = Due.hallOf("#./#.");
        due.is("some are left", x.tells(0), 1);
        x.look(0, 0);
        due.is("tells(0)", x.tells(0), 0);
        due.is("tells(1)", x.tells(1), 0);
        x.lost();
        due.is("some are left again", x.tells(0), 1);
        due.is("some are left again", x.tells(1), 2);
    }

    private void tellsOfFewLeft() {
        due.by("TELLS MOST ... after whose STEP (of those that are left)");
        HallCarrier alone = Due.hallOf(".#/##");
        due.is("a CELL with none FREE beside it", alone.tells(0), 0);
        due.is("its LOOK is one", alone.tells(1), 1);
        HallCarrier apart = Due.hallOf(".#../####");
        // Up leaves all three: none, right, left.
        due.is("one apart from two", apart.tells(1), 3);
        HallCarrier x = Due.hallOf("1...4/#####");
        x.look(2, 1);
        due.is("one is left: 0", x.tells(0), 0);
        due.is("one is left: one look", x.tells(1), 1);
        HallCarrier y = Due.hallOf("...../#####");
        y.look(10, 0);
        // 1, 2, 3 are left and look alike; right: 2, 3, 4; left: 0, 1, 2; up and down: 1, 2, 3.
        due.is("three are left", y.tells(0), 1);
        due.is("three are left", y.tells(1), 2);
        y.step(3);
        // 0, 1, 2: up: two looks; right: 1, 2, 3: one; left: 0, 1: two.
        due.is("behind a step", y.tells(0), 0);
        due.is("behind a step", y.tells(1), 2);
    }

    private void tellsRefusals() {
        due.by("TELLS MOST (what = 0), how many unlike LOOKS then (1). BAD.");
        HallCarrier x = Due.hallOf("#./#.");
        for (int what : new int[] {-1, 2, 3, 256, Integer.MIN_VALUE, Integer.MAX_VALUE}) {
            due.is("tells(" + what + ")", x.tells(what), BAD);
        }
        x.look(0, 0);
        due.is("BAD, none left", x.tells(2), BAD);
        due.is("BAD, none left", x.tells(-1), BAD);
    }

    private void nothingElseIsLost() {
        due.by("LOST: a set of FREE CELLS where it could be");
        HallCarrier x = new HallCarrier();
        x.look(6, 0);
        x.carrier(9, 0);
        x.person(1, 9);
        x.order(0, 9, 3);
        x.act(0, 0);
        x.walk(0, 8);
        x.tick(1);
        x.keep(0);
        x.back(0);
        x.type('.', 1);
        x.clear();
        due.is("none of these changes it", x.where(), Due.cells(0));
        x.step(1);
        x.look(12, 0);
        due.is("where()", x.where(), Due.cells(1));
        due.is("nor does a step move a carrier", x.at(0, 1), 9);
    }
}
