/** Promises 6 and 7: doors, and what is seen; a test for each sentence that names an edge. */
public final class DoorsAndSightEdgesTest {
    private static final int BAD = Due.BAD, STATE = Due.STATE;
    private static final int[] NO_DOORS = {-1, -8, 8, 64, 256, Integer.MIN_VALUE, Integer.MAX_VALUE};
    private final Due due = new Due();

    public static void main(String[] args) {
        DoorsAndSightEdgesTest t = new DoorsAndSightEdgesTest();
        t.numberedAsTheyStand();
        t.shutAtFirst();
        t.whatItWas();
        t.noSuchDoor();
        t.openOrShut();
        t.somebodyIsThere();
        t.aCarrierIsThere();
        t.anOrdersEndIsThere();
        t.imagesHoldNoDoor();
        t.badAheadOfState();
        t.itself();
        t.beside();
        t.aslant();
        t.betweenThem();
        t.wallsAreSeen();
        t.doorsInTheWay();
        t.rowsDoNotGoOn();
        t.noSuchCell();
        t.due.end();
    }

    private void numberedAsTheyStand() {
        due.by("D door (8 at most, numbered as they stand ...)");
        HallCarrier x = Due.hallOf("#D.D/D###/##DD/D.D#");
        int[] cells = {1, 3, 8, 18, 19, 24, 26};
        long free = Due.cells(2, 25);
        for (int i = 0; i < cells.length; i++) {
            due.is("door(" + i + ", 1)", x.door(i, 1), 0);
            free |= 1L << cells[i];
            due.is("where()", x.where(), free);
        }
        due.is("door(7, 1)", x.door(7, 1), BAD);
        for (int i = 0; i < cells.length; i++) {
            due.is("door(" + i + ", 0)", x.door(i, 0), 1);
            free &= ~(1L << cells[i]);
            due.is("where()", x.where(), free);
        }
        HallCarrier y = Due.hallOf("D......./......../......../......../......../......../......../.......D");
        due.is("door(1, 1) on the last cell", y.door(1, 1), 0);
        due.is("where()", y.where(), ~1L);
        due.is("door(0, 1) on the first cell", y.door(0, 1), 0);
        due.is("where()", y.where(), -1L);
    }

    private void shutAtFirst() {
        due.by("SHUT at first ... FREE are floors, and doors that are not SHUT");
        HallCarrier x = Due.hallOf("DDDD/DDDD");
        due.is("count(8)", x.count(8), 0);
        due.is("where()", x.where(), 0);
        due.is("lost()", x.lost(), 0);
        due.is("person(0, 0)", x.person(0, 0), STATE);
        due.is("carrier(0, 0)", x.carrier(0, 0), STATE);
        due.is("order(0, 0, 0)", x.order(0, 0, 0), STATE);
        for (int i = 0; i < 8; i++) {
            due.is("door(" + i + ", 1)", x.door(i, 1), 0);
            due.is("count(8)", x.count(8), i + 1);
        }
        due.is("count(1)", x.count(1), 8);
        due.is("person(0, 0)", x.person(0, 0), 0);
        due.is("carrier(0, 0)", x.carrier(0, 0), 0);
        due.is("order(0, 11, 0)", x.order(0, 11, 0), 0);
    }

    private void whatItWas() {
        due.by("A door is open (open = 1) or SHUT (0): what it was.");
        HallCarrier x = Due.hallOf("D./.D");
        due.is("door(1, 0)", x.door(1, 0), 0);
        due.is("door(1, 1)", x.door(1, 1), 0);
        due.is("door(1, 1)", x.door(1, 1), 1);
        due.is("door(0, 1)", x.door(0, 1), 0);
        due.is("door(1, 0)", x.door(1, 0), 1);
        due.is("door(1, 0)", x.door(1, 0), 0);
        due.is("door(0, 0)", x.door(0, 0), 1);
        due.is("count(8)", x.count(8), 2);
    }

    private void noSuchDoor() {
        due.by("door ... BAD (there is no such thing)");
        HallCarrier none = new HallCarrier();
        due.is("door(0, 0) of none", none.door(0, 0), BAD);
        due.is("door(0, 1) of none", none.door(0, 1), BAD);
        HallCarrier one = Due.hallOf("D./..");
        due.is("door(1, 1) of one", one.door(1, 1), BAD);
        HallCarrier eight = Due.hallOf("DDDD/DDDD");
        for (int i : NO_DOORS) {
            due.is("door(" + i + ", 0)", eight.door(i, 0), BAD);
            due.is("door(" + i + ", 1)", eight.door(i, 1), BAD);
        }
        due.is("none has opened", eight.count(8), 0);
        Due.tell(eight, "D./..");
        eight.hall();
        due.is("a door of the hall before", eight.door(1, 1), BAD);
    }

    private void openOrShut() {
        due.by("open (open = 1) or SHUT (0) ... BAD");
        HallCarrier x = Due.hallOf("D./..");
        for (int open : new int[] {-1, 2, 3, -2, 256, Integer.MIN_VALUE, Integer.MAX_VALUE}) {
            due.is("door(0, " + open + ")", x.door(0, open), BAD);
            due.is("count(8)", x.count(8), 3);
        }
        x.door(0, 1);
        for (int open : new int[] {-1, 2, 3, -2, 256, Integer.MIN_VALUE, Integer.MAX_VALUE}) {
            due.is("door(0, " + open + ")", x.door(0, open), BAD);
            due.is("count(8)", x.count(8), 4);
        }
    }

    private void somebodyIsThere() {
        due.by("STATE: somebody ... is there (of 0)");
        for (int last = 0; last < 6; last++) {
            HallCarrier x = Due.hallOf("D./..");
            x.door(0, 1);
            for (int i = 0; i < last; i++) {
                x.person(1, 1);
            }
            due.is("people elsewhere", x.door(0, 0), 1);
            x.door(0, 1);
            due.is("one more", x.person(1, 0), last);
            due.is("person " + last + " is there", x.door(0, 0), STATE);
            due.is("it stays open", x.count(8), 4);
            due.is("to open is not refused", x.door(0, 1), 1);
            x.walk(last, 8);
            due.is("it went", x.door(0, 0), 1);
            due.is("it is SHUT", x.count(8), 3);
        }
        HallCarrier y = Due.hallOf("D./..");
        y.door(0, 1);
        y.person(0, 0);
        y.look(6, 0);
        y.tick(1);
        due.is("refused", y.door(0, 0), STATE);
        due.is("where it could be stays", y.where(), Due.cells(0));
    }

    private void aCarrierIsThere() {
        due.by("STATE: ... a CARRIER ... is there (of 0)");
        HallCarrier x = Due.hallOf("D./.D");
        x.door(0, 1);
        x.door(1, 1);
        x.carrier(0, 0);
        due.is("the first carrier", x.door(0, 0), STATE);
        due.is("none yet", x.door(1, 0), 1);
        x.door(1, 1);
        x.carrier(9, 0);
        due.is("the second carrier", x.door(1, 0), STATE);
        due.is("to open is not refused", x.door(1, 1), 1);
        x.act(0, 1);
        due.is("the first one went", x.door(0, 0), 1);
        due.is("the second one is there", x.door(1, 0), STATE);
        x.act(1, 3);
        due.is("it went", x.door(1, 0), 1);
    }

    private void anOrdersEndIsThere() {
        due.by("STATE: ... or an ORDER's end is there (of 0)");
        for (int last = 0; last < 6; last++) {
            for (int end = 0; end < 2; end++) {
                HallCarrier x = Due.hallOf("D./..");
                x.door(0, 1);
                for (int i = 0; i < last; i++) {
                    x.order(1, 8, 0);
                }
                due.is("orders elsewhere", x.door(0, 0), 1);
                x.door(0, 1);
                due.is("one more", end == 0 ? x.order(0, 9, 0) : x.order(9, 0, 0), last);
                due.is("order " + last + " has an end there", x.door(0, 0), STATE);
                due.is("to open is not refused", x.door(0, 1), 1);
                due.is("it stays open", x.count(8), 4);
            }
        }
        for (int end = 0; end < 2; end++) {
            HallCarrier y = Due.hallOf(".../..D/...");
            y.door(0, 1);
            due.is("the first of two", end == 0 ? y.order(10, 9, 0) : y.order(9, 10, 0), 0);
            due.is("the second elsewhere", y.order(0, 18, 0), 1);
            due.is("the first has an end there", y.door(0, 0), STATE);
        }
        HallCarrier z = Due.hallOf(".../..D/...");
        z.door(0, 1);
        z.person(0, 10);
        z.person(0, 0);
        due.is("the first of two is there", z.door(0, 0), STATE);
    }

    private void imagesHoldNoDoor() {
        due.by("STATE: somebody, a CARRIER, or an ORDER's end is there (of 0)");
        HallCarrier x = Due.hallOf("D./..");
        x.door(0, 1);
        x.keep(0);
        x.person(0, 0);
        x.carrier(0, 0);
        x.keep(1);
        x.back(0);
        due.is("one of an image is not there", x.door(0, 0), 1);
        x.door(0, 1);
        x.back(1);
        due.is("now it is", x.door(0, 0), STATE);
    }

    private void badAheadOfState() {
        due.by("Refused, and nothing changes, the first of these: BAD ... STATE");
        HallCarrier x = Due.hallOf("D./..");
        x.door(0, 1);
        x.carrier(0, 0);
        due.is("door(0, 2)", x.door(0, 2), BAD);
        due.is("door(0, -1)", x.door(0, -1), BAD);
        due.is("door(1, 0)", x.door(1, 0), BAD);
        due.is("door(0, 0)", x.door(0, 0), STATE);
    }

    private void itself() {
        due.by("A CELL is SEEN from another one, if it is that");
        HallCarrier x = Due.hallOf("D#./..9/#..");
        for (int cell : new int[] {0, 1, 2, 8, 9, 10, 16, 17, 18}) {
            due.is("sees(" + cell + ") itself", x.sees(cell) >>> cell & 1, 1);
        }
        HallCarrier y = Due.hallOf(Due.floors(8, 8));
        for (int cell = 0; cell < 64; cell++) {
            due.is("sees(" + cell + ") itself", y.sees(cell) >>> cell & 1, 1);
            // In an open hall: the row, the column, and what is aslant beside it.
            int x0 = cell % 8;
            int y0 = cell / 8;
            int aslant = (x0 == 0 || x0 == 7 ? 1 : 2) * (y0 == 0 || y0 == 7 ? 1 : 2);
            due.is("sees(" + cell + ") in all", Long.bitCount(y.sees(cell)), 15 + aslant);
        }
    }

    private void beside() {
        due.by("or in one row or column with it, all CELLS between them FREE");
        HallCarrier x = Due.hallOf("###/###/###");
        due.is("none between them: seen", x.sees(9), Due.cells(0, 1, 2, 8, 9, 10, 16, 17, 18));
        due.is("a wall between them", x.sees(0), Due.cells(0, 1, 8, 9));
        due.is("a wall between them", x.sees(18), Due.cells(9, 10, 17, 18));
        due.is("a wall between them", x.sees(1), Due.cells(0, 1, 2, 8, 9, 10));
    }

    private void aslant() {
        due.by("or it is beside it in both x and y (by 1)");
        HallCarrier x = Due.hallOf("...../...../...../...../.....");
        due.is("by 1, not by 2, nor by 1 and 2", x.sees(18),
            Due.cells(2, 10, 26, 34, 16, 17, 19, 20, 18, 9, 11, 25, 27));
        HallCarrier y = Due.hallOf(".#.#./#####/.#.#./#####/.#.#.");
        due.is("walls on both sides", y.sees(18), Due.cells(9, 10, 11, 17, 18, 19, 25, 26, 27));
        HallCarrier z = Due.hallOf("../..");
        due.is("in a corner", z.sees(0), Due.cells(0, 1, 8, 9));
    }

    private void betweenThem() {
        due.by("all CELLS between them FREE");
        // One wall in a row of eight, at each place, as seen from the first cell and from the last.
        for (int wall = 1; wall < 7; wall++) {
            StringBuilder row = new StringBuilder("........");
            row.setCharAt(wall, '#');
            HallCarrier x = Due.hallOf("########/" + row + "/########");
            long below = 0;
            long above = 0;
            for (int k = 0; k <= wall; k++) {
                below |= 1L << 8 + k;
            }
            for (int k = wall; k < 8; k++) {
                above |= 1L << 8 + k;
            }
            due.is("from the first", x.sees(8), below | Due.cells(0, 1, 16, 17));
            due.is("from the last", x.sees(15), above | Due.cells(6, 7, 22, 23));
        }
        // The same in a column.
        for (int wall = 1; wall < 7; wall++) {
            StringBuilder text = new StringBuilder();
            for (int y = 0; y < 8; y++) {
                text.append(y == 0 ? "" : "/").append(y == wall ? "##" : "#.");
            }
            HallCarrier x = Due.hallOf(text.toString());
            long below = Due.cells(0, 8);
            long above = Due.cells(48, 56);
            for (int k = 0; k < 8; k++) {
                below |= k <= wall ? 1L << 8 * k + 1 : 0;
                above |= k >= wall ? 1L << 8 * k + 1 : 0;
            }
            due.is("from the top", x.sees(1), below);
            due.is("from the bottom", x.sees(57), above);
        }
        HallCarrier z = Due.hallOf("......../########");
        due.is("none between: to the end", z.sees(0), 0xFFL | Due.cells(8, 9));
        due.is("from within", z.sees(3), 0xFFL | Due.cells(10, 11, 12));
    }

    private void wallsAreSeen() {
        due.by("(Walls and SHUT doors are SEEN likewise.)");
        HallCarrier x = Due.hallOf("..#.D/...../D...#");
        due.is("a wall in the row", x.sees(0) >>> 2 & 1, 1);
        due.is("not behind it", x.sees(0) >>> 3 & 1, 0);
        due.is("a SHUT door in the row", x.sees(3), Due.cells(2, 3, 4, 10, 11, 12, 19));
        due.is("a SHUT door in the column", x.sees(8), Due.cells(0, 1, 8, 9, 10, 11, 12, 16, 17));
        due.is("from a SHUT door", x.sees(4), Due.cells(2, 3, 4, 11, 12, 20));
        due.is("from a wall", x.sees(2), Due.cells(0, 1, 2, 3, 4, 9, 10, 11, 18));
        due.is("a wall sees a wall", x.sees(20) >>> 4 & 1, 1);
    }

    private void doorsInTheWay() {
        due.by("all CELLS between them FREE (FREE are ... doors that are not SHUT)");
        HallCarrier x = Due.hallOf(".D.D./#####");
        due.is("both SHUT", x.sees(0), Due.cells(0, 1, 8, 9));
        x.door(1, 1);
        due.is("the further one open", x.sees(0), Due.cells(0, 1, 8, 9));
        x.door(0, 1);
        due.is("both open", x.sees(0), Due.cells(0, 1, 2, 3, 4, 8, 9));
        x.door(1, 0);
        due.is("the nearer one open", x.sees(0), Due.cells(0, 1, 2, 3, 8, 9));
        due.is("from the other end", x.sees(4), Due.cells(3, 4, 11, 12));
        x.person(0, 2);
        x.carrier(1, 0);
        due.is("people and carriers hide nothing", x.sees(0), Due.cells(0, 1, 2, 3, 8, 9));
    }

    private void rowsDoNotGoOn() {
        due.by("in one row or column with it ... beside it in both x and y (by 1)");
        HallCarrier x = Due.hallOf(Due.floors(8, 8));
        long firstRow = 0xFFL;
        long lastRow = 0xFFL << 56;
        long firstColumn = 0x0101010101010101L;
        long lastColumn = firstColumn << 7;
        due.is("sees(0)", x.sees(0), firstRow | firstColumn | Due.cells(9));
        due.is("sees(7)", x.sees(7), firstRow | lastColumn | Due.cells(14));
        due.is("sees(56)", x.sees(56), lastRow | firstColumn | Due.cells(49));
        due.is("sees(63)", x.sees(63), lastRow | lastColumn | Due.cells(54));
        due.is("sees(8)", x.sees(8), firstRow << 8 | firstColumn | Due.cells(1, 17));
        due.is("sees(15)", x.sees(15), firstRow << 8 | lastColumn | Due.cells(6, 22));
        due.is("sees(57)", x.sees(57), lastRow | firstColumn << 1 | Due.cells(48, 50));
        HallCarrier y = Due.hallOf("../../..");
        due.is("a narrow hall", y.sees(9), Due.cells(0, 1, 8, 9, 16, 17));
        due.is("a narrow hall's corner", y.sees(17), Due.cells(1, 8, 9, 16, 17));
    }

    private void noSuchCell() {
        due.by("CELLS that are SEEN from a CELL. -1: BAD. (a CELL beyond THE HALL)");
        HallCarrier x = Due.hallOf("..../..../..#.");
        for (int cell = 0; cell < 64; cell++) {
            boolean there = cell % 8 < 4 && cell / 8 < 3;
            due.holds("sees(" + cell + ")", there ? x.sees(cell) > 0 : x.sees(cell) == BAD);
        }
        for (int cell : Due.NO_CELLS) {
            due.is("sees(" + cell + ")", x.sees(cell), BAD);
        }
    }
}
