import java.util.HashMap;
import java.util.List;
import java.util.Map;
import java.util.function.Supplier;
import java.util.function.ToLongFunction;

/**
 * "Refused, and nothing changes, the first of these: BAD ..., STATE ..., FULL": each refusal of each
 * call in an empty, an ordinary and a full scene, and that all that can be asked is as it was behind it.
 */
public final class RefusalTest {
    private static final int BAD = Due.BAD, STATE = Due.STATE, FULL = Due.FULL;
    private static final int LEAST = Integer.MIN_VALUE, MOST = Integer.MAX_VALUE;

    private final Due due = new Due();
    private final Map<Supplier<HallCarrier>, List<String>> untouched = new HashMap<>();
    private Supplier<HallCarrier> scene;
    private String sceneName;

    public static void main(String[] args) {
        RefusalTest t = new RefusalTest();
        t.due.by("Refused, and nothing changes, the first of these: BAD, STATE, FULL");
        t.emptyScene();
        t.ordinaryScene();
        t.fullScene();
        t.readsChangeNothing();
        t.due.end();
    }

    private void in(String name, Supplier<HallCarrier> made) {
        sceneName = name;
        scene = made;
    }

    private void refused(String call, int want, ToLongFunction<HallCarrier> asked) {
        due.is(call + " in the " + sceneName + " scene", asked.applyAsLong(scene.get()), want);
        unchanged(call, asked);
    }

    private void unchanged(String call, ToLongFunction<HallCarrier> asked) {
        Supplier<HallCarrier> behind = () -> {
            HallCarrier x = scene.get();
            asked.applyAsLong(x);
            return x;
        };
        List<String> before = untouched.computeIfAbsent(scene, Snapshot::of);
        String difference = Snapshot.difference(before, Snapshot.of(behind));
        due.holds(call + " in the " + sceneName + " scene changes nothing, but " + difference, difference.isEmpty());
    }

    // ---- an object as it is made: two rows of two floors, nobody there

    private void emptyScene() {
        in("empty", HallCarrier::new);
        refused("type(., 0)", BAD, x -> x.type('.', 0));
        refused("type(., 9)", BAD, x -> x.type('.', 9));
        refused("hall()", -10, x -> x.hall());
        noCell(2);
        noCell(16);
        refused("door(0, 0)", BAD, x -> x.door(0, 0));
        refused("door(0, 1)", BAD, x -> x.door(0, 1));
        noPerson(0);
        noCarrier(0);
        for (int what = 0; what < 5; what++) {
            int w = what;
            refused("line(0, " + what + ")", BAD, x -> x.line(0, w));
        }
        refused("back(0)", STATE, x -> x.back(0));
        refused("back(1)", STATE, x -> x.back(1));
    }

    private void noCell(int cell) {
        refused("sign(" + cell + ")", BAD, x -> x.sign(cell));
        refused("sees(" + cell + ")", BAD, x -> x.sees(cell));
        refused("person(1, " + cell + ")", BAD, x -> x.person(1, cell));
        refused("carrier(" + cell + ", 0)", BAD, x -> x.carrier(cell, 0));
        refused("soonest(0, " + cell + ", 0)", BAD, x -> x.soonest(0, cell, 0));
        refused("walk(0, " + cell + ")", BAD, x -> x.walk(0, cell));
        refused("age(0, " + cell + ")", BAD, x -> x.age(0, cell));
        refused("order(" + cell + ", 0, 0)", BAD, x -> x.order(cell, 0, 0));
        refused("order(0, " + cell + ", 0)", BAD, x -> x.order(0, cell, 0));
    }

    private void noPerson(int i) {
        refused("at(" + i + ", 0)", BAD, x -> x.at(i, 0));
        refused("at(" + i + ", 2)", BAD, x -> x.at(i, 2));
        refused("could(" + i + ", 0)", BAD, x -> x.could(i, 0));
        refused("walk(" + i + ", 0)", BAD, x -> x.walk(i, 0));
    }

    private void noCarrier(int i) {
        refused("at(" + i + ", 1)", BAD, x -> x.at(i, 1));
        refused("at(" + i + ", 3)", BAD, x -> x.at(i, 3));
        refused("anybody(" + i + ", 0)", BAD, x -> x.anybody(i, 0));
        refused("let(" + i + ")", BAD, x -> x.let(i));
        refused("soonest(" + i + ", 0, 0)", BAD, x -> x.soonest(i, 0, 0));
        refused("act(" + i + ", 4)", BAD, x -> x.act(i, 4));
        refused("age(" + i + ", 0)", BAD, x -> x.age(i, 0));
        refused("charge(0, " + i + ")", BAD, x -> x.charge(0, i));
        refused("served(" + i + ", 0)", BAD, x -> x.served(i, 0));
    }

    // ---- five times three cells, some of everything

    /**
     * Row 0: an open door with a person on it, a floor, a wall, a mark, an open door where orders end.
     * Row 1: floors, a SHUT door, a floor, a wall. Row 2: floors, the last but one with a person, then an
     * open door with the carrier on it.
     */
    private static HallCarrier ordinary() {
        HallCarrier x = Due.hallOf("D.#1D/..D.#/..2.D");
        x.door(0, 1);
        x.door(1, 1);
        x.door(3, 1);
        x.person(1, 0);
        x.person(3, 19);
        x.carrier(20, 7);
        x.keep(1);
        x.tick(4);
        x.act(0, 3);
        x.act(0, 2);
        x.order(4, 3, 20);
        x.order(17, 4, 9);
        x.tick(3);
        x.keep(0);
        x.act(0, 4);
        x.look(6, 0);
        x.step(1);
        x.charge(6, 0);
        Due.tell(x, "1D./#.9");
        return x;
    }

    private static HallCarrier ordinaryWithFault() {
        HallCarrier x = ordinary();
        Due.tell(x, "/..");
        return x;
    }

    private void ordinaryScene() {
        in("ordinary", RefusalTest::ordinary);
        badOfHall(4);
        for (int cell : new int[] {LEAST, -64, -1, 5, 13, 24, 63, 64, 65, MOST}) {
            noCell(cell);
        }
        for (int i : new int[] {LEAST, -1, 2, 6, MOST}) {
            noPerson(i);
        }
        for (int i : new int[] {LEAST, -1, 1, 2, MOST}) {
            noCarrier(i);
        }
        badOfPeople();
        badOfTime(3);
        badOfLost();
        badOfOrders();
        stateOrdinary();
        stateOfOrders();
        in("ordinary, with a fault,", RefusalTest::ordinaryWithFault);
        refused("hall()", -10 - 10, x -> x.hall());
    }

    private void badOfHall(int doors) {
        for (int n : new int[] {LEAST, -1, 0, 9, 16, MOST}) {
            refused("type(., " + n + ")", BAD, x -> x.type('.', n));
        }
        for (int i : new int[] {LEAST, -1, doors, 8, 64, MOST}) {
            if (i < 0 || i >= doors) {
                refused("door(" + i + ", 0)", BAD, x -> x.door(i, 0));
                refused("door(" + i + ", 1)", BAD, x -> x.door(i, 1));
            }
        }
        for (int open : new int[] {LEAST, -1, 2, MOST}) {
            refused("door(0, " + open + ")", BAD, x -> x.door(0, open));
            refused("door(2, " + open + ")", BAD, x -> x.door(2, open));
        }
    }

    private void badOfPeople() {
        for (int kind : new int[] {LEAST, -1, 4, MOST}) {
            refused("person(" + kind + ", 8)", BAD, x -> x.person(kind, 8));
            refused("person(" + kind + ", 2)", BAD, x -> x.person(kind, 2));
        }
        for (int load : new int[] {LEAST, -1, 10, MOST}) {
            refused("carrier(8, " + load + ")", BAD, x -> x.carrier(8, load));
            refused("carrier(2, " + load + ")", BAD, x -> x.carrier(2, load));
        }
        for (int what : new int[] {LEAST, -1, 4, MOST}) {
            refused("at(0, " + what + ")", BAD, x -> x.at(0, what));
        }
        for (int ticks : new int[] {LEAST, -1, 21, MOST}) {
            refused("could(0, " + ticks + ")", BAD, x -> x.could(0, ticks));
            refused("anybody(0, " + ticks + ")", BAD, x -> x.anybody(0, ticks));
        }
        for (int what : new int[] {LEAST, -1, 2, MOST}) {
            refused("soonest(0, 8, " + what + ")", BAD, x -> x.soonest(0, 8, what));
            refused("soonest(0, 2, " + what + ")", BAD, x -> x.soonest(0, 2, what));
        }
    }

    private void badOfTime(int lines) {
        for (int move : new int[] {LEAST, -1, 5, MOST}) {
            refused("act(0, " + move + ")", BAD, x -> x.act(0, move));
        }
        for (int n : new int[] {LEAST, -1, 0, 51, MOST}) {
            refused("tick(" + n + ")", BAD, x -> x.tick(n));
        }
        for (int i : new int[] {LEAST, -1, lines, 100, MOST}) {
            refused("line(" + i + ", 0)", BAD, x -> x.line(i, 0));
        }
        for (int what : new int[] {LEAST, -1, 5, MOST}) {
            refused("line(0, " + what + ")", BAD, x -> x.line(0, what));
        }
        for (int kind : new int[] {LEAST, -1, 7, MOST}) {
            refused("charge(" + kind + ", 0)", BAD, x -> x.charge(kind, 0));
        }
    }

    private void badOfLost() {
        for (int bits : new int[] {LEAST, -1, 16, MOST}) {
            refused("look(" + bits + ", 0)", BAD, x -> x.look(bits, 0));
        }
        for (int mark : new int[] {LEAST, -1, 10, MOST}) {
            refused("look(0, " + mark + ")", BAD, x -> x.look(0, mark));
        }
        for (int d : new int[] {LEAST, -1, 4, MOST}) {
            refused("step(" + d + ")", BAD, x -> x.step(d));
        }
        for (int what : new int[] {LEAST, -1, 2, MOST}) {
            refused("tells(" + what + ")", BAD, x -> x.tells(what));
        }
    }

    private void badOfOrders() {
        for (int tick : new int[] {LEAST, -1, 201, MOST}) {
            refused("order(8, 9, " + tick + ")", BAD, x -> x.order(8, 9, tick));
            refused("order(2, 2, " + tick + ")", BAD, x -> x.order(2, 2, tick));
        }
        for (int k : new int[] {LEAST, -1}) {
            refused("served(0, " + k + ")", BAD, x -> x.served(0, k));
        }
        for (int image : new int[] {LEAST, -1, 2, MOST}) {
            refused("keep(" + image + ")", BAD, x -> x.keep(image));
            refused("back(" + image + ")", BAD, x -> x.back(image));
        }
        for (int what : new int[] {LEAST, -1, 9, MOST}) {
            refused("count(" + what + ")", BAD, x -> x.count(what));
        }
    }

    private void stateOrdinary() {
        refused("door(0, 0): somebody is there", STATE, x -> x.door(0, 0));
        refused("door(1, 0): orders end there", STATE, x -> x.door(1, 0));
        refused("door(3, 0): a carrier is there", STATE, x -> x.door(3, 0));
        refused("person on a wall", STATE, x -> x.person(1, 2));
        refused("person on a SHUT door", STATE, x -> x.person(1, 10));
        refused("carrier on a wall", STATE, x -> x.carrier(12, 0));
        refused("carrier on a SHUT door", STATE, x -> x.carrier(10, 0));
        refused("carrier on a carrier's cell", STATE, x -> x.carrier(20, 0));
        refused("soonest to a wall", STATE, x -> x.soonest(0, 2, 0));
        refused("soonest to a SHUT door", STATE, x -> x.soonest(0, 10, 1));
        refused("walk by two", STATE, x -> x.walk(0, 9));
        refused("walk aslant, one who blocks", STATE, x -> x.walk(1, 12));
        refused("walk to a carrier", STATE, x -> x.walk(1, 20));
        refused("walk away from a carrier", STATE, x -> x.walk(1, 18));
        refused("order from a wall", STATE, x -> x.order(2, 8, 0));
        refused("order to a SHUT door", STATE, x -> x.order(8, 10, 0));
    }

    private static HallCarrier cutOff() {
        HallCarrier x = Due.hallOf(".#/#.");
        x.carrier(0, 2);
        x.order(0, 0, 4);
        x.order(9, 9, 4);
        return x;
    }

    private static HallCarrier withoutCarrier() {
        HallCarrier x = new HallCarrier();
        x.order(0, 9, 4);
        return x;
    }

    private void stateOfOrders() {
        in("cut-off", RefusalTest::cutOff);
        refused("late()", STATE, x -> x.late());
        refused("served(0, 0)", STATE, x -> x.served(0, 0));
        refused("served(0, 6)", STATE, x -> x.served(0, 6));
        refused("served(0, -1)", BAD, x -> x.served(0, -1));
        refused("served(1, 0)", BAD, x -> x.served(1, 0));
        in("deserted", RefusalTest::withoutCarrier);
        refused("late()", STATE, x -> x.late());
        refused("served(0, 0)", BAD, x -> x.served(0, 0));
    }

    // ---- the largest hall, and everything full

    private static final String EIGHT_DOORS = "DDDDDDDD/12345678/9......./......../......../......../......../.....#..";

    private static HallCarrier full() {
        HallCarrier x = Due.hallOf(EIGHT_DOORS);
        x.door(7, 1);
        x.door(6, 1);
        x.person(0, 7);
        x.carrier(7, 9);
        x.keep(0);
        x.back(0);
        for (int i = 1; i < 6; i++) {
            x.person(i % 4, 15 + 8 * i);
        }
        x.carrier(56, 0);
        for (int i = 0; i < 6; i++) {
            x.order(8 + i, 6, 200);
        }
        for (int i = 0; i < 100; i++) {
            x.act(i % 2, i % 5);
        }
        for (int i = 0; i < 20; i++) {
            x.tick(50);
        }
        x.keep(1);
        x.look(15, 0);
        for (int i = 0; i < 10; i++) {
            x.type(0x2E2E2E2E2E2E2E2FL, 8);
        }
        return x;
    }

    private void fullScene() {
        in("full", RefusalTest::full);
        badOfHall(8);
        for (int cell : new int[] {LEAST, -64, -1, 64, 127, MOST}) {
            noCell(cell);
        }
        for (int i : new int[] {LEAST, -1, 6, 64, MOST}) {
            noPerson(i);
        }
        for (int i : new int[] {LEAST, -1, 2, 64, MOST}) {
            noCarrier(i);
        }
        badOfPeople();
        badOfTime(100);
        badOfLost();
        badOfOrders();
        stateFull();
        fullFull();
    }

    private void stateFull() {
        refused("door(7, 0): somebody is there", STATE, x -> x.door(7, 0));
        refused("door(6, 0): orders end there", STATE, x -> x.door(6, 0));
        refused("person on a wall", STATE, x -> x.person(0, 61));
        refused("person on a SHUT door", STATE, x -> x.person(0, 0));
        refused("carrier on a wall", STATE, x -> x.carrier(61, 0));
        refused("carrier on a SHUT door", STATE, x -> x.carrier(0, 0));
        refused("carrier on a carrier's cell", STATE, x -> x.carrier(x.at(1, 1), 0));
        refused("order from a wall", STATE, x -> x.order(61, 8, 0));
        refused("order to a SHUT door", STATE, x -> x.order(8, 0, 0));
        refused("tick(1)", STATE, x -> x.tick(1));
        refused("tick(50)", STATE, x -> x.tick(50));
    }

    private void fullFull() {
        for (int n = 1; n <= 8; n++) {
            int bytes = n;
            refused("type(., " + n + ")", FULL, x -> x.type(0x2E2E2E2E2E2E2E2EL, bytes));
        }
        for (int kind = 0; kind < 4; kind++) {
            int k = kind;
            refused("person(" + kind + ", 8)", FULL, x -> x.person(k, 8));
        }
        refused("carrier(8, 0)", FULL, x -> x.carrier(8, 0));
        refused("carrier(9, 9)", FULL, x -> x.carrier(9, 9));
        for (int move = 0; move <= 4; move++) {
            int m = move;
            refused("act(0, " + move + ")", FULL, x -> x.act(0, m));
            refused("act(1, " + move + ")", FULL, x -> x.act(1, m));
        }
        refused("order(8, 9, 0)", FULL, x -> x.order(8, 9, 0));
        refused("order(63, 62, 200)", FULL, x -> x.order(63, 62, 200));
        // Eight rows of seven, and a / behind them.
        refused("hall()", -10 - 63, x -> x.hall());
        doorsOfImages();
    }

    private static HallCarrier imageOnShutDoor() {
        HallCarrier x = Due.hallOf("D.D/...");
        x.door(0, 1);
        x.door(1, 1);
        x.person(1, 0);
        x.keep(0);
        x.walk(0, 8);
        x.carrier(2, 5);
        x.keep(1);
        x.act(0, 2);
        x.door(0, 0);
        x.door(1, 0);
        x.tick(2);
        x.order(9, 10, 3);
        return x;
    }

    private void doorsOfImages() {
        in("door", RefusalTest::imageOnShutDoor);
        refused("back(0): somebody would be on a SHUT door", STATE, x -> x.back(0));
        refused("back(1): a CARRIER would be on a SHUT door", STATE, x -> x.back(1));
    }

    // ---- calls that only tell

    private void readsChangeNothing() {
        for (int s = 0; s < 3; s++) {
            if (s == 0) {
                in("empty", HallCarrier::new);
            } else if (s == 1) {
                in("ordinary", RefusalTest::ordinary);
            } else {
                in("full", RefusalTest::full);
            }
            unchanged("sign", x -> x.sign(0) + x.sign(9));
            unchanged("sees", x -> x.sees(0) + x.sees(9));
            unchanged("at", x -> x.at(0, 0) + x.at(0, 1) + x.at(0, 2) + x.at(0, 3));
            unchanged("could", x -> x.could(0, 20) + x.could(1, 1));
            unchanged("anybody", x -> x.anybody(0, 20) + x.anybody(1, 1));
            unchanged("let", x -> x.let(0) + x.let(1));
            unchanged("soonest", x -> x.soonest(0, 9, 0) + x.soonest(0, 8, 1) + x.soonest(1, 9, 1));
            unchanged("line", x -> x.line(0, 0) + x.line(0, 4));
            unchanged("age", x -> x.age(0, 0) + x.age(0, 9));
            unchanged("where", x -> x.where());
            unchanged("tells", x -> x.tells(0) + x.tells(1));
            unchanged("late", x -> x.late());
            unchanged("served", x -> x.served(0, 0) + x.served(1, 0));
            unchanged("count", x -> x.count(0) + x.count(8));
            unchanged("trace", x -> x.trace());
        }
    }
}
