/** Promises 1 to 5: the text, its faults, the hall that it becomes; a test for each sentence that names an edge. */
public final class TextEdgesTest {
    private static final int BAD = Due.BAD, STATE = Due.STATE, FULL = Due.FULL, NONE = Due.NONE;
    private static final String SIGNS = ".#D123456789";
    private final Due due = new Due();

    public static void main(String[] args) {
        TextEdgesTest t = new TextEdgesTest();
        t.atFirst();
        t.aNewObjectsRefusals();
        t.bytesOfACall();
        t.bytesThatAreNone();
        t.eightyBytes();
        t.clearedText();
        t.sizes();
        t.tooFewRows();
        t.tooManyRows();
        t.firstRowTooWide();
        t.firstRowTooNarrow();
        t.rowOfMore();
        t.rowOfFewer();
        t.endsWithARowOfFewer();
        t.bytesThatCantStand();
        t.signsThatStand();
        t.nineDoors();
        t.marksOnce();
        t.theFirstFault();
        t.faultsInALongText();
        t.aFaultChangesNothing();
        t.readAnew();
        t.readAnewFromFull();
        t.numbersOfCells();
        t.signsBeyond();
        t.theLastCall();
        t.due.end();
    }

    private void faultAt(String text, int place) {
        due.is("hall() of '" + text + "'", Due.hallAnswer(text), -10 - place);
    }

    private void stands(String text, int cells) {
        due.is("hall() of '" + text + "'", Due.hallAnswer(text), cells);
    }

    private void atFirst() {
        due.by("(At first two rows of two floors.)");
        HallCarrier x = new HallCarrier();
        int[] counts = {4, 0, 0, 0, 0, 0, 0, 0, 4};
        for (int what = 0; what < counts.length; what++) {
            due.is("count(" + what + ")", x.count(what), counts[what]);
        }
        for (int cell = 0; cell < 64; cell++) {
            boolean there = cell == 0 || cell == 1 || cell == 8 || cell == 9;
            due.is("sign(" + cell + ")", x.sign(cell), there ? '.' : BAD);
            due.is("sees(" + cell + ")", x.sees(cell), there ? Due.cells(0, 1, 8, 9) : BAD);
        }
        due.is("where()", x.where(), Due.cells(0, 1, 8, 9));
        due.is("trace()", x.trace(), 0);
    }

    private void aNewObjectsRefusals() {
        due.by("BAD (a number is not as told, or there is no such thing)");
        HallCarrier x = new HallCarrier();
        due.is("door(0, 1)", x.door(0, 1), BAD);
        due.is("at(0, 0)", x.at(0, 0), BAD);
        due.is("at(0, 1)", x.at(0, 1), BAD);
        due.is("could(0, 0)", x.could(0, 0), BAD);
        due.is("anybody(0, 0)", x.anybody(0, 0), BAD);
        due.is("let(0)", x.let(0), BAD);
        due.is("soonest(0, 0, 0)", x.soonest(0, 0, 0), BAD);
        due.is("act(0, 4)", x.act(0, 4), BAD);
        due.is("walk(0, 0)", x.walk(0, 0), BAD);
        due.is("line(0, 0)", x.line(0, 0), BAD);
        due.is("age(0, 0)", x.age(0, 0), BAD);
        due.is("charge(0, 0)", x.charge(0, 0), BAD);
        due.is("served(0, 0)", x.served(0, 0), BAD);
        due.is("back(0)", x.back(0), STATE);
        due.is("back(1)", x.back(1), STATE);
        due.is("late()", x.late(), 0);
        due.is("hall() of no text", x.hall(), -10);
        due.is("trace()", x.trace(), 0);
    }

    private void bytesOfACall() {
        due.by("The lowest n (1 .. 8) bytes of v, the highest of them first, come to THE TEXT: how many it has.");
        long marks = 0x3132333435363738L;
        for (int n = 1; n <= 8; n++) {
            HallCarrier x = new HallCarrier();
            // What stands above the lowest n bytes can't stand in a text, so it would be a fault.
            long v = n == 8 ? marks : marks >>> 8 * (8 - n) | -1L << 8 * n;
            due.is("type of " + n, x.type(v, n), n);
            Due.tell(x, n == 1 ? "./.." : "/" + ".".repeat(n));
            due.is("hall of " + n, x.hall(), n == 1 ? 4 : 2 * n);
            for (int k = 0; k < n; k++) {
                due.is("sign " + k + " of " + n, x.sign(k), '1' + k);
            }
        }
        HallCarrier x = new HallCarrier();
        due.is("type(0, 8)", x.type(0L, 8), 8);
        due.is("type(-1, 8)", x.type(-1L, 8), 16);
        due.is("type(least, 1)", x.type(Long.MIN_VALUE, 1), 17);
        due.is("type(most, 1)", x.type(Long.MAX_VALUE, 1), 18);
        due.is("count(7)", x.count(7), 18);
    }

    private void bytesThatAreNone() {
        due.by("The lowest n (1 .. 8) bytes of v ... BAD");
        HallCarrier x = new HallCarrier();
        int[] wrong = {0, 9, -1, -8, 16, 64, 257, Integer.MIN_VALUE, Integer.MIN_VALUE + 1, Integer.MAX_VALUE};
        for (int n : wrong) {
            due.is("type(v, " + n + ")", x.type(0x2E2E2E2E2E2E2E2EL, n), BAD);
            due.is("count(7)", x.count(7), 0);
        }
        due.is("type(v, 1)", x.type('.', 1), 1);
        due.is("type(v, 8)", x.type(0L, 8), 9);
        for (int n : wrong) {
            due.is("type(v, " + n + ")", x.type(0L, n), BAD);
            due.is("count(7)", x.count(7), 9);
        }
    }

    private void eightyBytes() {
        due.by("It is told by a text (80 bytes at most)");
        for (int n = 1; n <= 8; n++) {
            HallCarrier x = new HallCarrier();
            Due.tell(x, "x".repeat(81 - n));
            due.is("81 by type of " + n, x.type(0L, n), FULL);
            due.is("bytes stay", x.count(7), 81 - n);
            due.is("BAD is ahead of FULL", x.type(0L, 9), BAD);
            if (n > 1) {
                due.is("80 by type of " + (n - 1), x.type(0L, n - 1), 80);
            }
            due.is("bytes", x.count(7), 80);
            for (int m = 1; m <= 8; m++) {
                due.is("type of " + m + " behind 80", x.type(0L, m), FULL);
            }
            due.is("type of 0 behind 80", x.type(0L, 0), BAD);
            due.is("bytes stay", x.count(7), 80);
        }
    }

    private void clearedText() {
        due.by("THE TEXT is empty: how many bytes it had.");
        HallCarrier x = new HallCarrier();
        due.is("clear() of none", x.clear(), 0);
        x.type('.', 1);
        due.is("clear() of one", x.clear(), 1);
        due.is("count(7)", x.count(7), 0);
        due.is("clear() again", x.clear(), 0);
        for (int i = 0; i < 10; i++) {
            x.type(-1L, 8);
        }
        due.is("full", x.type(0L, 1), FULL);
        due.is("clear() of 80", x.clear(), 80);
        due.is("no longer full", x.type(0x2E2E2F2E2E313233L, 8), 8);
        due.is("clear() of eight", x.clear(), 8);
        Due.tell(x, "D./..");
        due.is("nothing of the old text stands", x.hall(), 4);
        due.is("nor of what is read", x.clear(), 0);
        due.is("the hall stays behind clear()", x.sign(0), 'D');
    }

    private void sizes() {
        due.by("2 .. 8 rows, all of as many signs as the first (2 .. 8)");
        for (int rows = 2; rows <= 8; rows++) {
            for (int signs = 2; signs <= 8; signs++) {
                HallCarrier x = Due.hallOf(Due.floors(rows, signs));
                due.is("count(0) of " + rows + " by " + signs, x.count(0), rows * signs);
                due.is("count(8)", x.count(8), rows * signs);
                due.is("bits of where()", Long.bitCount(x.where()), rows * signs);
                int last = 8 * (rows - 1) + signs - 1;
                due.is("the last cell", x.sign(last), '.');
                due.is("beyond in x", x.sign(last + 1), BAD);
                due.is("beyond in y", x.sign(last + 8), BAD);
                stands(Due.floors(rows, signs), rows * signs);
            }
        }
    }

    private void tooFewRows() {
        due.by("the text's length, if it ends with ... a single one");
        for (int signs = 1; signs <= 8; signs++) {
            faultAt(".".repeat(signs), signs);
        }
        faultAt("", 0);
    }

    private void tooManyRows() {
        due.by("a / behind eight rows");
        for (int signs = 2; signs <= 8; signs++) {
            String eight = Due.floors(8, signs);
            stands(eight, 8 * signs);
            faultAt(eight + "/", eight.length());
            faultAt(eight + "/" + ".".repeat(signs), eight.length());
            stands(Due.floors(7, signs) + "/" + ".".repeat(signs), 8 * signs);
        }
    }

    private void firstRowTooWide() {
        due.by("a sign by which a row has more than the first one (the first one more than 8)");
        stands("......../........", 16);
        faultAt(".........", 8);
        faultAt("........./.........", 8);
        faultAt("12345678D/12345678D", 8);
        faultAt(".".repeat(80), 8);
    }

    private void firstRowTooNarrow() {
        due.by("a / by which one has fewer (the first one fewer than 2)");
        faultAt("/", 0);
        faultAt("/..", 0);
        faultAt("//", 0);
        faultAt("./", 1);
        faultAt("./.", 1);
        faultAt("./..", 1);
        stands("../..", 4);
    }

    /** The first rows of a hall whose next row is told apart. */
    private static String begun(int rows, int signs) {
        return Due.floors(rows, signs) + "/";
    }

    private void rowOfMore() {
        due.by("a sign by which a row has more than the first one");
        for (int signs = 2; signs <= 8; signs++) {
            for (int rows = 1; rows <= 7; rows++) {
                String text = begun(rows, signs) + ".".repeat(signs);
                for (char sign : new char[] {'.', '#', 'D', '9'}) {
                    faultAt(text + sign, text.length());
                }
                stands(text, (rows + 1) * signs);
            }
        }
    }

    private void rowOfFewer() {
        due.by("a / by which one has fewer");
        for (int signs = 2; signs <= 8; signs++) {
            for (int rows = 1; rows <= 6; rows++) {
                for (int fewer = 0; fewer < signs; fewer++) {
                    String text = begun(rows, signs) + ".".repeat(fewer);
                    faultAt(text + "/" + ".".repeat(signs), text.length());
                }
            }
        }
    }

    private void endsWithARowOfFewer() {
        due.by("the text's length, if it ends with a row of fewer");
        for (int signs = 2; signs <= 8; signs++) {
            for (int rows = 1; rows <= 7; rows++) {
                for (int fewer = 0; fewer < signs; fewer++) {
                    String text = begun(rows, signs) + ".".repeat(fewer);
                    faultAt(text, text.length());
                }
            }
        }
    }

    private void bytesThatCantStand() {
        due.by("one that is none of these");
        for (int b = 0; b < 256; b++) {
            if (b == '/' || SIGNS.indexOf(b) >= 0) {
                continue;
            }
            faultAt((char) b + "./..", 0);
            faultAt("." + (char) b + "/..", 1);
            faultAt(".." + (char) b + "..", 2);
            faultAt("../." + (char) b, 4);
            faultAt("../.." + (char) b, 5);
        }
    }

    private void signsThatStand() {
        due.by(". floor, # wall, D door, 1 .. 9 floor with a MARK");
        for (char sign : SIGNS.toCharArray()) {
            HallCarrier x = Due.hallOf("../." + sign);
            due.is("sign of " + sign, x.sign(9), sign);
            due.is("FREE with " + sign, x.count(8), sign == '#' || sign == 'D' ? 3 : 4);
            due.is("doors with " + sign, x.count(1), sign == 'D' ? 1 : 0);
            // From the last corner of four: up and left are floors.
            int left = x.look(9, sign >= '1' && sign <= '9' ? sign - '0' : 0);
            due.is("look for " + sign, left, sign == '#' || sign == 'D' ? 0 : 1);
        }
    }

    private void nineDoors() {
        due.by("D door (8 at most ...) ... a ninth D");
        stands("DDDDDDDD/........", 16);
        stands("......../DDDDDDDD", 16);
        stands("DD/DD/DD/DD", 8);
        faultAt("DD/DD/DD/DD/D.", 12);
        faultAt("DDDDDDDD/D.......", 9);
        faultAt("DDDDDDDD/.......D", 16);
        faultAt("DDDD/DDDDD", 9);
        faultAt("DDD/DDD/DDD", 10);
        HallCarrier x = Due.hallOf("DDDDDDDD/........");
        due.is("count(1)", x.count(1), 8);
        due.is("door(7, 1)", x.door(7, 1), 0);
        due.is("door(8, 1)", x.door(8, 1), BAD);
        // A ninth is counted in one text, not in one object.
        Due.tell(x, "DDDDDDDD/D.......");
        due.is("nine", x.hall(), -19);
        x.clear();
        Due.tell(x, "DDDDDDDD/........");
        due.is("eight once more", x.hall(), 16);
        due.is("count(1)", x.count(1), 8);
    }

    private void marksOnce() {
        due.by("1 .. 9 floor with a MARK (each once at most) ... a MARK that was");
        stands("12345/6789.", 10);
        for (char mark = '1'; mark <= '9'; mark++) {
            stands(mark + "./..", 4);
            faultAt("" + mark + mark + "/..", 1);
            faultAt(mark + "./." + mark, 4);
            faultAt("12345/6789" + mark, 10);
            char other = mark == '9' ? '1' : (char) (mark + 1);
            stands("" + mark + other + "/..", 4);
        }
        HallCarrier x = Due.hallOf("12/34");
        Due.tell(x, "43/21");
        due.is("marks of the hall before", x.hall(), 4);
        due.is("sign(0)", x.sign(0), '4');
        due.is("look for 1", x.look(9, 1), 1);
        due.is("where()", x.where(), Due.cells(9));
        Due.tell(x, "../..");
        x.hall();
        for (int mark = 1; mark <= 9; mark++) {
            x.lost();
            due.is("no mark " + mark + " any more", x.look(9, mark), 0);
        }
        x.lost();
        due.is("none is", x.look(9, 0), 1);
    }

    private void theFirstFault() {
        due.by("FAULT: the place of the first byte that can't stand there");
        faultAt("x/x", 0);
        faultAt("..x/./y", 2);
        faultAt("../.../x", 5);
        faultAt("11/.", 1);
        faultAt("../1/1x", 4);
        faultAt("DDDDDDDD/DD...............x", 9);
        faultAt(Due.floors(8, 2) + "x", 23);
        faultAt(Due.floors(8, 2) + "//", 23);
        // A byte is ahead of the text's length.
        faultAt("x", 0);
        faultAt("../x", 3);
        faultAt("..x", 2);
    }

    private void faultsInALongText() {
        due.by("FAULT ... a / behind eight rows; a sign by which a row has more");
        String most = Due.floors(8, 8);
        due.is("the longest text that stands", most.length(), 71);
        stands(most, 64);
        faultAt(most + ".", 71);
        faultAt(most + "/", 71);
        faultAt(most + "/........", 71);
        faultAt(most.substring(0, 70), 70);
        faultAt(most.substring(0, 63), 63);
        faultAt(most.substring(0, 70) + "/........", 70);
    }

    private void aFaultChangesNothing() {
        due.by("-10 less FAULT: nothing changes.");
        HallCarrier x = Due.hallOf("D1/..");
        x.door(0, 1);
        x.person(3, 0);
        x.carrier(9, 4);
        x.order(0, 8, 7);
        x.act(0, 4);
        x.tick(3);
        x.keep(1);
        x.look(9, 0);
        x.charge(0, 0);
        Due.tell(x, "D./.");
        due.is("hall()", x.hall(), -14);
        int[] counts = {4, 1, 1, 1, 1, 1, 3, 4, 4};
        for (int what = 0; what < counts.length; what++) {
            due.is("count(" + what + ")", x.count(what), counts[what]);
        }
        due.is("hall() again", x.hall(), -14);
        due.is("where()", x.where(), Due.cells(9));
        due.is("sign(1)", x.sign(1), '1');
        due.is("line(0, 2)", x.line(0, 2), 4);
        due.is("at(0, 0)", x.at(0, 0), 0);
        due.is("at(0, 1)", x.at(0, 1), 9);
        due.is("age(0, 0)", x.age(0, 0), 0);
        due.is("trace()", x.trace(), 1);
        due.is("late()", x.late(), 0);
        due.is("back(1)", x.back(1), 3);
        due.is("back(0)", x.back(0), STATE);
        due.is("the door is open", x.door(0, 1), 1);
        x.type('#', 1);
        due.is("the text goes on", x.hall(), 4);
        due.is("sign(9)", x.sign(9), '#');
    }

    private void readAnew() {
        due.by("THE TEXT becomes THE HALL, and is empty then ... PEOPLE, CARRIERS, ORDERS, LINES, IMAGES are gone, TICK is 0.");
        HallCarrier x = new HallCarrier();
        x.person(1, 0);
        x.carrier(9, 9);
        x.order(0, 8, 200);
        x.act(0, 4);
        x.tick(50);
        x.keep(0);
        x.keep(1);
        x.look(0, 0);
        // The same hall once more: what is gone is gone by the reading, not by another form.
        Due.tell(x, "../..");
        due.is("hall()", x.hall(), 4);
        int[] counts = {4, 0, 0, 0, 0, 0, 0, 0, 4};
        for (int what = 0; what < counts.length; what++) {
            due.is("count(" + what + ")", x.count(what), counts[what]);
        }
        due.is("back(0)", x.back(0), STATE);
        due.is("back(1)", x.back(1), STATE);
        due.is("at(0, 0)", x.at(0, 0), BAD);
        due.is("at(0, 1)", x.at(0, 1), BAD);
        due.is("line(0, 0)", x.line(0, 0), BAD);
        due.is("late()", x.late(), 0);
        due.is("where()", x.where(), Due.cells(0, 1, 8, 9));
        due.is("hall() of the empty text", x.hall(), -10);
        due.is("carrier(0, 0)", x.carrier(0, 0), 0);
        due.is("served(0, 0)", x.served(0, 0), NONE);
        due.is("person(0, 0)", x.person(0, 0), 0);
        due.is("order(0, 0, 0)", x.order(0, 0, 0), 0);
        due.is("age(0, 9)", x.age(0, 9), 0);
        due.is("tick(1)", x.tick(1), 1);
    }

    private void readAnewFromFull() {
        due.by("PEOPLE, CARRIERS, ORDERS, LINES, IMAGES are gone, TICK is 0; doors SHUT at first");
        HallCarrier x = Due.hallOf("D./..");
        x.door(0, 1);
        for (int i = 0; i < 6; i++) {
            x.person(0, 0);
            x.order(0, 0, 0);
        }
        x.carrier(0, 0);
        x.carrier(1, 0);
        for (int i = 0; i < 100; i++) {
            x.act(1, 4);
        }
        for (int i = 0; i < 20; i++) {
            x.tick(50);
        }
        due.is("tick(1)", x.tick(1), STATE);
        Due.tell(x, "D./..");
        due.is("hall()", x.hall(), 4);
        due.is("the door is SHUT", x.person(0, 0), STATE);
        due.is("door(0, 0)", x.door(0, 0), 0);
        due.is("person(0, 1)", x.person(0, 1), 0);
        due.is("carrier(1, 0)", x.carrier(1, 0), 0);
        due.is("order(1, 1, 0)", x.order(1, 1, 0), 0);
        due.is("act(0, 4)", x.act(0, 4), 0);
        due.is("line(1, 0)", x.line(1, 0), BAD);
        due.is("tick(50)", x.tick(50), 50);
    }

    private void numbersOfCells() {
        due.by("up to 8 times 8 CELLS, numbered 8 y and x; sets of CELLS are told as bits of a long number");
        HallCarrier x = Due.hallOf("12#/3../4.5");
        due.is("sign(0)", x.sign(0), '1');
        due.is("sign(1)", x.sign(1), '2');
        due.is("sign(8)", x.sign(8), '3');
        due.is("sign(16)", x.sign(16), '4');
        due.is("sign(18)", x.sign(18), '5');
        due.is("where()", x.where(), Due.cells(0, 1, 8, 9, 10, 16, 17, 18));
        HallCarrier y = Due.hallOf(Due.floors(8, 8));
        due.is("all bits", y.where(), -1L);
        due.is("hall of 64", y.count(0), 64);
        due.is("carrier on the last", y.carrier(63, 0), 0);
        due.is("at(0, 1)", y.at(0, 1), 63);
        due.is("person on the last", y.person(0, 63), 0);
        due.is("could(0, 0)", y.could(0, 0), Long.MIN_VALUE);
        HallCarrier z = Due.hallOf(Due.floors(7, 8) + "/.......9");
        z.look(9, 9);
        due.is("the last bit", z.where(), Long.MIN_VALUE);
    }

    private void signsBeyond() {
        due.by("The sign of a CELL. BAD. (a CELL beyond THE HALL)");
        HallCarrier x = Due.hallOf("..../.D../...9");
        for (int cell = 0; cell < 64; cell++) {
            boolean there = cell % 8 < 4 && cell / 8 < 3;
            int sign = !there ? BAD : cell == 9 ? 'D' : cell == 19 ? '9' : '.';
            due.is("sign(" + cell + ")", x.sign(cell), sign);
        }
        for (int cell : Due.NO_CELLS) {
            due.is("sign(" + cell + ")", x.sign(cell), BAD);
        }
        Due.tell(x, "../..");
        x.hall();
        due.is("of the hall before", x.sign(2), BAD);
        due.is("of the hall before", x.sign(19), BAD);
        due.is("of this one", x.sign(9), '.');
    }

    private void theLastCall() {
        due.by("An object is used for at most 512 calls after it has been made");
        HallCarrier x = new HallCarrier();
        x.carrier(0, 0);
        for (int i = 0; i < 510; i++) {
            x.charge(6, 0);
        }
        due.is("the 512th call", x.trace(), 510 * 1000101L);
        HallCarrier y = new HallCarrier();
        for (int i = 0; i < 255; i++) {
            Due.tell(y, "D");
            due.is("clear()", y.clear(), 1);
        }
        due.is("the 511th call", y.carrier(9, 9), 0);
        due.is("the 512th call", y.let(0), 1 + 8 + 16);
    }
}
