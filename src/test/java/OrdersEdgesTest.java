/** Promises 26 to 32: orders, images, counts, the trace; a test for each sentence that names an edge. */
public final class OrdersEdgesTest {
    private static final int BAD = Due.BAD, STATE = Due.STATE, FULL = Due.FULL, NONE = Due.NONE;
    private static final int[] NO_NUMBERS = {-1, -2, 2, 3, 6, 32, 64, Integer.MIN_VALUE, Integer.MAX_VALUE};
    private static final String CORRIDOR = Due.CORRIDOR;
    private static final String WINDING = Due.WINDING;
    private final Due due = new Due();

    public static void main(String[] args) {
        OrdersEdgesTest t = new OrdersEdgesTest();
        t.sixOrders();
        t.ordersOnFreeCells();
        t.dueTicks();
        t.ordersRefusals();
        t.noOrders();
        t.noCarrier();
        t.cantBeComeTo();
        t.justInTime();
        t.fromNowOn();
        t.fewestSteps();
        t.notLookedAt();
        t.allOrdersTogether();
        t.ordersOfTwo();
        t.theLeastSet();
        t.theFirstRow();
        t.theFirstRowOfTheSecond();
        t.onlyOneCarrier();
        t.planKeepsUp();
        t.planIsMadeAnew();
        t.servedNoMore();
        t.servedsRefusals();
        t.imagesKeep();
        t.imagesKeepNothingElse();
        t.emptyAndFullImages();
        t.whoIsOfWhichImage();
        t.keptOver();
        t.imagesRefusals();
        t.wouldBeOnAShutDoor();
        t.backChangesNothingRefused();
        t.counts();
        t.countsOfNone();
        t.traceStays();
        t.due.end();
    }

    private void row(HallCarrier x, int carrier, int... orders) {
        for (int k = 0; k < orders.length; k++) {
            due.is("served(" + carrier + ", " + k + ")", x.served(carrier, k), orders[k]);
        }
        due.is("served(" + carrier + ", " + orders.length + ")", x.served(carrier, orders.length), NONE);
    }

    private void sixOrders() {
        due.by("ORDERS (6 at most) ... An ORDER: its number. ... FULL");
        HallCarrier x = new HallCarrier();
        for (int i = 0; i < 6; i++) {
            due.is("count(4)", x.count(4), i);
            due.is("order " + i, x.order(0, 9, 7), i);
        }
        due.is("the seventh", x.order(0, 9, 7), FULL);
        due.is("the seventh, another", x.order(8, 1, 0), FULL);
        due.is("count(4)", x.count(4), 6);
        Due.tell(x, "../..");
        x.hall();
        due.is("numbers begin anew", x.order(0, 0, 0), 0);
    }

    private void ordersOnFreeCells() {
        due.by("from a FREE CELL to a FREE one ... STATE: a CELL is not FREE");
        HallCarrier x = Due.hallOf(".#D/1..");
        due.is("from a wall", x.order(1, 0, 0), STATE);
        due.is("to a wall", x.order(0, 1, 0), STATE);
        due.is("from a SHUT door", x.order(2, 0, 0), STATE);
        due.is("to a SHUT door", x.order(0, 2, 0), STATE);
        due.is("both", x.order(1, 2, 0), STATE);
        due.is("count(4)", x.count(4), 0);
        due.is("a mark", x.order(8, 10, 0), 0);
        due.is("from where it goes to", x.order(9, 9, 0), 1);
        x.door(0, 1);
        due.is("from an open door", x.order(2, 0, 0), 2);
        due.is("to an open door", x.order(0, 2, 0), 3);
        x.carrier(0, 0);
        x.person(0, 10);
        due.is("where somebody is", x.order(10, 0, 0), 4);
    }

    private void dueTicks() {
        due.by("DUE at a TICK 0 .. 200");
        HallCarrier x = new HallCarrier();
        for (int tick : new int[] {-1, 201, -200, 256, 1000, Integer.MIN_VALUE, Integer.MAX_VALUE}) {
            due.is("order(0, 0, " + tick + ")", x.order(0, 0, tick), BAD);
        }
        due.is("count(4)", x.count(4), 0);
        due.is("order(0, 0, 0)", x.order(0, 0, 0), 0);
        due.is("order(0, 0, 200)", x.order(0, 0, 200), 1);
        Due.tickTo(x, 300);
        due.is("due before now", x.order(0, 0, 200), 2);
    }

    private void ordersRefusals() {
        due.by("order: BAD; STATE: a CELL is not FREE; FULL");
        HallCarrier x = Due.hallOf(".#./...");
        for (int cell : Due.NO_CELLS) {
            due.is("order(" + cell + ", 0, 0)", x.order(cell, 0, 0), BAD);
            due.is("order(0, " + cell + ", 0)", x.order(0, cell, 0), BAD);
        }
        for (int cell : new int[] {3, 7, 11, 16, 24, 63}) {
            due.is("from beyond", x.order(cell, 0, 0), BAD);
            due.is("to beyond", x.order(0, cell, 0), BAD);
        }
        due.is("BAD is ahead of STATE: due", x.order(1, 0, 201), BAD);
        due.is("BAD is ahead of STATE: from", x.order(3, 1, 0), BAD);
        due.is("BAD is ahead of STATE: to", x.order(1, 3, 0), BAD);
        for (int i = 0; i < 6; i++) {
            x.order(0, 0, 0);
        }
        due.is("STATE is ahead of FULL: from", x.order(1, 0, 0), STATE);
        due.is("STATE is ahead of FULL: to", x.order(0, 1, 0), STATE);
        due.is("BAD is ahead of FULL: due", x.order(0, 0, -1), BAD);
        due.is("BAD is ahead of FULL: from", x.order(3, 0, 0), BAD);
        due.is("BAD is ahead of FULL: to", x.order(0, 3, 0), BAD);
        due.is("FULL", x.order(0, 0, 0), FULL);
        due.is("count(4)", x.count(4), 6);
    }

    private void noOrders() {
        due.by("(No ORDERS: 0, be there CARRIERS or not.)");
        HallCarrier x = new HallCarrier();
        due.is("no carrier", x.late(), 0);
        x.carrier(0, 0);
        due.is("a carrier", x.late(), 0);
        due.is("served(0, 0)", x.served(0, 0), NONE);
        x.carrier(9, 0);
        Due.tickTo(x, 1000);
        due.is("two carriers", x.late(), 0);
        due.is("served(1, 0)", x.served(1, 0), NONE);
        HallCarrier y = Due.hallOf(".#/#.");
        y.carrier(0, 0);
        y.carrier(9, 0);
        due.is("carriers that can't come anywhere", y.late(), 0);
    }

    private void noCarrier() {
        due.by("STATE: there are ORDERS, and no CARRIER");
        HallCarrier x = new HallCarrier();
        x.order(0, 9, 200);
        due.is("late()", x.late(), STATE);
        due.is("served(0, 0): no such CARRIER", x.served(0, 0), BAD);
        x.keep(0);
        x.carrier(0, 0);
        due.is("a carrier", x.late(), 0);
        x.back(0);
        due.is("gone", x.late(), STATE);
    }

    private void cantBeComeTo() {
        due.by("STATE: ... or from some CARRIER some end of an ORDER can't be come to");
        HallCarrier from = Due.hallOf(".D./.#.");
        from.carrier(0, 0);
        from.order(2, 0, 200);
        due.is("its beginning", from.late(), STATE);
        due.is("served", from.served(0, 0), STATE);
        due.is("served, no more", from.served(0, 1), STATE);
        HallCarrier to = Due.hallOf(".D./.#.");
        to.carrier(0, 0);
        to.order(8, 10, 200);
        due.is("its end", to.late(), STATE);
        to.door(0, 1);
        due.is("the door is open", to.late(), 0);
        HallCarrier both = Due.hallOf(".D./.#.");
        both.carrier(0, 0);
        both.order(2, 10, 200);
        due.is("both ends", both.late(), STATE);
        HallCarrier other = Due.hallOf(".D./.#.");
        other.carrier(0, 0);
        other.order(0, 8, 200);
        due.is("the only carrier can", other.late(), 0);
        other.carrier(2, 0);
        due.is("another carrier can't", other.late(), STATE);
        due.is("served by the one that can", other.served(0, 0), STATE);
        due.is("served by the one that can't", other.served(1, 0), STATE);
        HallCarrier first = Due.hallOf(".D./.#.");
        first.carrier(2, 0);
        first.carrier(0, 0);
        first.order(0, 8, 200);
        due.is("the first carrier can't", first.late(), STATE);
        HallCarrier sixth = Due.hallOf(".D./.#.");
        sixth.carrier(0, 0);
        for (int i = 0; i < 5; i++) {
            sixth.order(0, 8, 200);
        }
        due.is("five can be come to", sixth.late(), 0);
        sixth.order(8, 2, 200);
        due.is("the sixth can't", sixth.late(), STATE);
    }

    private void justInTime() {
        due.by("LATE is what comes behind DUE");
        // Three steps to where it is, and four on: at 7.
        int[] dues = {0, 5, 6, 7, 8, 200};
        int[] lates = {7, 2, 1, 0, 0, 0};
        for (int k = 0; k < dues.length; k++) {
            HallCarrier x = Due.hallOf(CORRIDOR);
            x.carrier(0, 0);
            x.order(3, 7, dues[k]);
            due.is("due at " + dues[k], x.late(), lates[k]);
        }
        HallCarrier y = Due.hallOf(CORRIDOR);
        y.carrier(4, 0);
        y.order(4, 4, 0);
        due.is("there at once", y.late(), 0);
        y.tick(1);
        due.is("a tick later", y.late(), 1);
    }

    private void fromNowOn() {
        due.by("from now on; LATE is what comes behind DUE");
        HallCarrier x = new HallCarrier();
        x.carrier(0, 0);
        x.order(0, 0, 200);
        Due.tickTo(x, 200);
        due.is("at 200", x.late(), 0);
        x.tick(1);
        due.is("at 201", x.late(), 1);
        Due.tickTo(x, 1000);
        due.is("at 1000", x.late(), 800);
        for (int i = 0; i < 5; i++) {
            x.order(0, 0, 0);
        }
        due.is("six at 1000", x.late(), 5800);
        row(x, 0, 0, 1, 2, 3, 4, 5);
    }

    private void fewestSteps() {
        due.by("each by the fewest steps over FREE CELLS");
        HallCarrier x = Due.hallOf(WINDING);
        x.carrier(0, 0);
        x.order(0, 56, 0);
        due.is("the whole way", x.late(), 35);
        HallCarrier y = Due.hallOf(WINDING);
        y.carrier(56, 0);
        y.order(0, 56, 0);
        due.is("there and back", y.late(), 70);
        HallCarrier z = Due.hallOf(WINDING);
        z.carrier(56, 0);
        for (int i = 0; i < 6; i++) {
            z.order(0, 56, 0);
        }
        due.is("six times there and back", z.late(), 70 * (1 + 2 + 3 + 4 + 5 + 6));
        HallCarrier w = Due.hallOf(Due.floors(8, 8));
        w.carrier(0, 0);
        w.order(63, 0, 0);
        due.is("from corner to corner and back", w.late(), 28);
        HallCarrier d = Due.hallOf(".D./.#./...");
        d.carrier(0, 0);
        d.order(0, 2, 0);
        due.is("around a SHUT door", d.late(), 6);
        d.door(0, 1);
        due.is("through it", d.late(), 2);
        HallCarrier border = Due.hallOf(Due.floors(8, 8));
        border.carrier(7, 0);
        border.order(8, 8, 0);
        due.is("not over the border", border.late(), 8);
    }

    private void notLookedAt() {
        due.by("(PEOPLE, CARRIERS not looked at)");
        HallCarrier x = Due.hallOf(CORRIDOR);
        x.carrier(0, 0);
        x.carrier(1, 0);
        for (int i = 0; i < 6; i++) {
            x.person(i % 4, 2 + i % 3);
        }
        x.order(0, 0, 0);
        x.order(7, 7, 5);
        due.is("over carriers and people", x.late(), 1);
        row(x, 0, 0);
        row(x, 1, 1);
        HallCarrier y = Due.hallOf(CORRIDOR);
        y.carrier(0, 0);
        y.carrier(1, 0);
        y.order(1, 1, 0);
        y.order(2, 2, 0);
        due.is("to where a carrier is", y.late(), 1);
        row(y, 0);
        due.holds("the second one serves both", y.served(1, 0) == 0 && y.served(1, 1) == 1);
    }

    private void allOrdersTogether() {
        due.by("a CARRIER goes from where it is to where an ORDER is, then where it goes to, and so on; LATE ... of all ORDERS together");
        HallCarrier x = Due.hallOf(CORRIDOR);
        x.carrier(0, 0);
        x.order(1, 3, 3);
        due.is("one", x.late(), 0);
        x.order(5, 4, 5);
        // 0 then 1: at 3 and at 6; 1 then 0: at 6 and at 11.
        due.is("two", x.late(), 1);
        row(x, 0, 0, 1);
        x.order(0, 0, 0);
        due.is("where it is", x.late(), 1);
        row(x, 0, 2, 0, 1);
    }

    private void ordersOfTwo() {
        due.by("each ORDER is given to a CARRIER of those there");
        HallCarrier x = Due.hallOf(CORRIDOR);
        x.carrier(0, 0);
        x.carrier(7, 0);
        for (int i = 0; i < 3; i++) {
            x.order(0, 0, 0);
            x.order(7, 7, 0);
        }
        due.is("late()", x.late(), 0);
        row(x, 0, 0, 2, 4);
        row(x, 1, 1, 3, 5);
        HallCarrier y = Due.hallOf(CORRIDOR);
        y.carrier(7, 0);
        y.carrier(0, 0);
        for (int i = 0; i < 6; i++) {
            y.order(0, 0, 0);
        }
        due.is("all by the second one", y.late(), 0);
        row(y, 0);
        row(y, 1, 0, 1, 2, 3, 4, 5);
    }

    private void theLeastSet() {
        due.by("of several that whose set of ORDERS for CARRIER 1 is the least as a number (bits)");
        HallCarrier x = Due.hallOf(CORRIDOR);
        x.carrier(0, 0);
        x.carrier(1, 0);
        for (int i = 0; i < 6; i++) {
            x.order(7, 0, 200);
        }
        due.is("none is late", x.late(), 0);
        row(x, 0, 0, 1, 2, 3, 4, 5);
        row(x, 1);
        HallCarrier y = Due.hallOf(CORRIDOR);
        y.carrier(2, 0);
        y.carrier(4, 0);
        y.order(3, 3, 1);
        y.order(3, 2, 2);
        // One carrier alone serves both in time, the second one need not.
        due.is("one alone", y.late(), 0);
        row(y, 0, 0, 1);
        row(y, 1);
        HallCarrier z = Due.hallOf(CORRIDOR);
        z.carrier(2, 0);
        z.carrier(4, 0);
        z.order(3, 0, 4);
        z.order(3, 6, 4);
        // By distance each can take either in time: order 0 for the second one is the lesser number.
        due.is("one each", z.late(), 0);
        row(z, 0, 1);
        row(z, 1, 0);
        HallCarrier w = Due.hallOf(CORRIDOR);
        w.carrier(3, 0);
        w.carrier(5, 0);
        w.order(4, 6, 3);
        w.order(6, 6, 3);
        w.order(4, 2, 3);
        // 0 and 1 are in time by one carrier if the other one has 2: {0, 1} = 3 is less than {2} = 4, though of more.
        due.is("a number, not how many", w.late(), 0);
        row(w, 0, 2);
        row(w, 1, 0, 1);
        HallCarrier v = Due.hallOf(CORRIDOR);
        v.carrier(0, 0);
        v.carrier(7, 0);
        v.order(7, 7, 200);
        for (int i = 0; i < 5; i++) {
            v.order(6, 6, 0);
        }
        // Order 0 is in time by either; 1 to 5 are late by one each by the second one.
        due.is("62 is less than 63", v.late(), 5);
        row(v, 0, 0);
        row(v, 1, 1, 2, 3, 4, 5);
    }

    private void theFirstRow() {
        due.by("then whose row of CARRIER 0 is first by numbers");
        HallCarrier x = Due.hallOf(CORRIDOR);
        x.carrier(4, 0);
        x.order(0, 0, 200);
        x.order(7, 7, 200);
        x.order(4, 4, 200);
        due.is("none is late", x.late(), 0);
        row(x, 0, 0, 1, 2);
        HallCarrier y = Due.hallOf(CORRIDOR);
        y.carrier(4, 0);
        y.order(3, 3, 0);
        y.order(5, 5, 0);
        // 0 then 1: 1 and 3; 1 then 0: 1 and 3.
        due.is("as late either way", y.late(), 4);
        row(y, 0, 0, 1);
        HallCarrier z = Due.hallOf(CORRIDOR);
        z.carrier(4, 0);
        z.order(5, 5, 0);
        z.order(3, 3, 0);
        due.is("as late either way", z.late(), 4);
        row(z, 0, 0, 1);
        HallCarrier w = Due.hallOf(CORRIDOR);
        w.carrier(4, 0);
        w.order(5, 5, 2);
        w.order(3, 3, 1);
        // 0 then 1: at 1 and 3: 0 and 2; 1 then 0: at 1 and 3: 0 and 1.
        due.is("the least comes first", w.late(), 1);
        row(w, 0, 1, 0);
    }

    private void theFirstRowOfTheSecond() {
        due.by("then CARRIER 1's");
        HallCarrier y = Due.hallOf(CORRIDOR);
        y.carrier(0, 0);
        y.carrier(6, 0);
        y.order(5, 5, 0);
        y.order(7, 7, 0);
        // Carrier 1: 5 at 1, 7 at 3, or 7 at 1, 5 at 3: 4 either way; with carrier 0 for 5: 5 and 1: more.
        due.is("as late either way", y.late(), 4);
        row(y, 0);
        row(y, 1, 0, 1);
        HallCarrier z = Due.hallOf(CORRIDOR);
        z.carrier(0, 0);
        z.carrier(6, 0);
        z.order(7, 7, 0);
        z.order(0, 0, 0);
        z.order(5, 5, 0);
        due.is("as late either way", z.late(), 4);
        row(z, 0, 1);
        row(z, 1, 0, 2);
    }

    private void onlyOneCarrier() {
        due.by("each ORDER is given to a CARRIER of those there, in rows");
        HallCarrier x = Due.hallOf(CORRIDOR);
        x.carrier(0, 0);
        x.order(7, 7, 0);
        x.order(0, 0, 0);
        due.is("one carrier", x.late(), 7);
        row(x, 0, 1, 0);
        due.is("there is no second one", x.served(1, 0), BAD);
        x.carrier(7, 0);
        due.is("two carriers", x.late(), 0);
        row(x, 0, 1);
        row(x, 1, 0);
    }

    private void planKeepsUp() {
        due.by("a CARRIER goes from where it is ... from now on");
        HallCarrier x = Due.hallOf("...D.../.#####./.......");
        x.carrier(2, 0);
        x.order(4, 4, 0);
        due.is("around", x.late(), 14);
        x.door(0, 1);
        due.is("a door opens", x.late(), 2);
        x.door(0, 0);
        due.is("a door shuts", x.late(), 14);
        x.act(0, 3);
        due.is("an act", x.late(), 13);
        x.tick(1);
        due.is("a tick", x.late(), 14);
        x.keep(0);
        x.carrier(6, 0);
        due.is("another carrier", x.late(), 3);
        due.is("served by it", x.served(1, 0), 0);
        x.order(1, 1, 0);
        due.is("another order", x.late(), 4);
        x.back(0);
        due.is("back to one carrier", x.late(), 1 + 14);
        due.is("served by it", x.served(0, 0), 1);
        due.is("no second one", x.served(1, 0), BAD);
    }

    private void planIsMadeAnew() {
        due.by("By that, the k-th ORDER of a CARRIER");
        HallCarrier x = Due.hallOf(CORRIDOR);
        x.carrier(0, 0);
        x.carrier(6, 0);
        x.order(7, 7, 5);
        row(x, 0);
        row(x, 1, 0);
        x.act(0, 1);
        row(x, 1, 0);
        x.act(0, 1);
        // From 2 the first one comes in time, so that the second one has none.
        row(x, 0, 0);
        row(x, 1);
        Due.tell(x, CORRIDOR);
        x.hall();
        x.carrier(0, 0);
        due.is("in another hall", x.served(0, 0), NONE);
        HallCarrier y = Due.hallOf(".#/#.");
        y.carrier(0, 0);
        y.carrier(9, 0);
        for (int i = 0; i < 6; i++) {
            y.order(0, 9, 0);
        }
        due.is("none can be come to", y.late(), STATE);
        Due.tell(y, CORRIDOR);
        y.hall();
        y.carrier(0, 0);
        y.order(1, 2, 1);
        due.is("what could not be come to there is no matter here", y.late(), 1);
        y.carrier(1, 0);
        due.is("nor with two", y.late(), 0);
    }

    private void servedNoMore() {
        due.by("By that, the k-th ORDER of a CARRIER; NONE: it has no more.");
        HallCarrier x = new HallCarrier();
        x.carrier(0, 0);
        x.carrier(9, 0);
        for (int i = 0; i < 6; i++) {
            x.order(0, 0, 200);
            due.is("served(0, " + i + ")", x.served(0, i), i);
            for (int k = i + 1; k < 9; k++) {
                due.is("served(0, " + k + ")", x.served(0, k), NONE);
            }
        }
        for (int k : new int[] {0, 5, 6, 7, 8, 32, 64, Integer.MAX_VALUE}) {
            due.is("served(1, " + k + ")", x.served(1, k), NONE);
        }
        due.is("served(0, most)", x.served(0, Integer.MAX_VALUE), NONE);
    }

    private void servedsRefusals() {
        due.by("served: BAD; STATE.");
        HallCarrier x = Due.hallOf(".#/#.");
        due.is("no carrier, no orders", x.served(0, 0), BAD);
        x.carrier(0, 0);
        due.is("no second carrier", x.served(1, 0), BAD);
        for (int i : NO_NUMBERS) {
            due.is("served(" + i + ", 0)", x.served(i, 0), BAD);
        }
        for (int k : new int[] {-1, -2, -6, Integer.MIN_VALUE}) {
            due.is("served(0, " + k + ")", x.served(0, k), BAD);
        }
        due.is("served(0, 0)", x.served(0, 0), NONE);
        x.order(9, 9, 0);
        due.is("STATE", x.served(0, 0), STATE);
        due.is("BAD is ahead of STATE", x.served(0, -1), BAD);
        due.is("BAD is ahead of STATE", x.served(1, 0), BAD);
    }

    private void imagesKeep() {
        due.by("IMAGES 0, 1 keep PEOPLE, CARRIERS, what these SAW when, TICK, LINES");
        HallCarrier x = Due.hallOf("..D./####");
        x.person(2, 0);
        x.carrier(1, 6);
        x.tick(3);
        x.act(0, 4);
        due.is("keep(1)", x.keep(1), 3);
        x.door(0, 1);
        x.tick(5);
        x.walk(0, 2);
        x.person(1, 3);
        x.carrier(0, 1);
        x.act(0, 2);
        due.is("keep(0)", x.keep(0), 8);
        due.is("back(1)", x.back(1), 3);
        int[] early = {8, 1, 1, 1, 0, 1, 3, 0, 4};
        for (int what = 0; what < early.length; what++) {
            due.is("count(" + what + ")", x.count(what), early[what]);
        }
        due.is("person's cell", x.at(0, 0), 0);
        due.is("person's kind", x.at(0, 2), 2);
        due.is("carrier's cell", x.at(0, 1), 1);
        due.is("carrier's load", x.at(0, 3), 6);
        due.is("seen then", x.age(0, 2), 0);
        due.is("not seen then", x.age(0, 3), NONE);
        due.is("line(0, 2)", x.line(0, 2), 4);
        due.is("back(0)", x.back(0), 8);
        due.is("person's cell", x.at(0, 0), 2);
        due.is("second person's kind", x.at(1, 2), 1);
        due.is("second carrier's load", x.at(1, 3), 1);
        due.is("seen", x.age(0, 3), 0);
        due.is("line(1, 2)", x.line(1, 2), 2);
        due.is("lines", x.count(5), 2);
    }

    private void imagesKeepNothingElse() {
        due.by("nothing else (not doors, ORDERS, where it could be)");
        HallCarrier x = Due.hallOf("D./.D");
        x.carrier(1, 0);
        x.type('.', 1);
        x.keep(0);
        x.door(0, 1);
        x.order(0, 1, 9);
        x.look(6, 0);
        x.type('.', 1);
        x.charge(1, 0);
        due.is("back(0)", x.back(0), 0);
        due.is("the door is open", x.count(8), 3);
        due.is("the order is there", x.count(4), 1);
        due.is("where it could be", x.where(), Due.cells(0));
        due.is("bytes of the text", x.count(7), 2);
        due.is("the trace", x.trace(), 11);
        x.keep(1);
        due.is("another image has none of it either", x.back(1), 0);
        due.is("the order is there", x.count(4), 1);
        due.is("back(0) again", x.back(0), 0);
    }

    private void emptyAndFullImages() {
        due.by("All of that becomes as an IMAGE has it: TICK.");
        HallCarrier x = new HallCarrier();
        due.is("keep(0) of nothing", x.keep(0), 0);
        for (int i = 0; i < 6; i++) {
            x.person(i % 4, 9);
        }
        x.carrier(0, 9);
        x.carrier(1, 8);
        for (int i = 0; i < 100; i++) {
            x.act(i % 2, i % 5);
        }
        Due.tickTo(x, 1000);
        due.is("keep(1) of all", x.keep(1), 1000);
        int[] none = {4, 0, 0, 0, 0, 0, 0, 0, 4};
        int[] all = {4, 0, 6, 2, 0, 100, 1000, 0, 4};
        due.is("back(0)", x.back(0), 0);
        for (int what = 0; what < none.length; what++) {
            due.is("count(" + what + ")", x.count(what), none[what]);
        }
        due.is("nobody", x.at(0, 0), BAD);
        due.is("no carrier", x.at(0, 1), BAD);
        due.is("a new one", x.carrier(9, 0), 0);
        due.is("a new person", x.person(0, 0), 0);
        due.is("back(1)", x.back(1), 1000);
        for (int what = 0; what < all.length; what++) {
            due.is("count(" + what + ")", x.count(what), all[what]);
        }
        due.is("the sixth person", x.at(5, 2), 1);
        due.is("the second carrier", x.at(1, 3), 8);
        due.is("the last line", x.line(99, 2), 4);
        due.is("seven are too many", x.person(0, 0), FULL);
        due.is("three are too many", x.carrier(8, 0), FULL);
        due.is("101 are too many", x.act(0, 4), FULL);
        due.is("1001 are too many", x.tick(1), STATE);
        due.is("back(0)", x.back(0), 0);
        due.is("nobody", x.count(2), 0);
    }

    private void whoIsOfWhichImage() {
        due.by("IMAGES 0, 1 keep PEOPLE, CARRIERS, what these SAW when");
        HallCarrier x = Due.hallOf("..D./####");
        x.keep(0);
        x.person(2, 0);
        x.person(1, 1);
        x.carrier(1, 6);
        x.tick(2);
        x.carrier(3, 7);
        x.tick(1);
        x.keep(1);
        x.back(0);
        x.person(3, 1);
        x.person(0, 3);
        x.carrier(0, 2);
        x.carrier(1, 4);
        x.tick(9);
        due.is("back(1)", x.back(1), 3);
        int[][] bodies = {{0, 0, 0}, {1, 0, 1}, {0, 2, 2}, {1, 2, 1}, {0, 1, 1}, {1, 1, 3}, {0, 3, 6}, {1, 3, 7}};
        for (int[] b : bodies) {
            due.is("at(" + b[0] + ", " + b[1] + ")", x.at(b[0], b[1]), b[2]);
        }
        int[] first = {0, 0, 0, NONE};
        int[] second = {NONE, NONE, 0, 0};
        for (int cell = 0; cell < 4; cell++) {
            due.is("age(0, " + cell + ")", x.age(0, cell), first[cell]);
            due.is("age(1, " + cell + ")", x.age(1, cell), second[cell]);
        }
    }

    private void keptOver() {
        due.by("An IMAGE is kept: TICK.");
        HallCarrier x = new HallCarrier();
        due.is("keep(0)", x.keep(0), 0);
        x.tick(5);
        due.is("keep(0) over it", x.keep(0), 5);
        x.tick(5);
        due.is("back(0)", x.back(0), 5);
        x.tick(1);
        due.is("back(0) once more", x.back(0), 5);
        due.is("keep(1)", x.keep(1), 5);
        x.person(0, 0);
        due.is("what comes behind is not in it", x.back(1), 5);
        due.is("count(2)", x.count(2), 0);
        x.carrier(0, 0);
        x.keep(0);
        x.act(0, 1);
        x.back(0);
        due.is("where it was", x.at(0, 1), 0);
        x.act(0, 2);
        x.back(0);
        due.is("where it was", x.at(0, 1), 0);
        due.is("no lines", x.count(5), 0);
    }

    private void imagesRefusals() {
        due.by("keep: BAD. back: BAD; STATE: none was kept");
        HallCarrier x = new HallCarrier();
        due.is("none was kept", x.back(0), STATE);
        due.is("none was kept", x.back(1), STATE);
        for (int i : NO_NUMBERS) {
            due.is("keep(" + i + ")", x.keep(i), BAD);
            due.is("back(" + i + ")", x.back(i), BAD);
        }
        due.is("still none", x.back(0), STATE);
        due.is("still none", x.back(1), STATE);
        x.keep(1);
        due.is("not the other one", x.back(0), STATE);
        due.is("that one", x.back(1), 0);
        Due.tell(x, "../..");
        x.hall();
        due.is("gone with the hall", x.back(1), STATE);
        x.keep(0);
        due.is("that one", x.back(0), 0);
        due.is("not the other one", x.back(1), STATE);
    }

    private void wouldBeOnAShutDoor() {
        due.by("STATE: ... or somebody, or a CARRIER, would be on a SHUT door");
        for (int last = 0; last < 6; last++) {
            HallCarrier x = Due.hallOf("D./.D");
            x.door(0, 1);
            x.keep(1);
            for (int i = 0; i < last; i++) {
                x.person(0, 1);
            }
            x.person(0, 0);
            x.keep(0);
            x.back(1);
            x.door(0, 0);
            due.is("person " + last + " would be", x.back(0), STATE);
            due.is("nobody is", x.count(2), 0);
            x.door(1, 1);
            due.is("another door is no matter", x.back(0), STATE);
            x.door(0, 1);
            x.door(1, 0);
            due.is("it is open", x.back(0), 0);
            due.is("they are there", x.count(2), last + 1);
        }
        for (int last = 0; last < 2; last++) {
            HallCarrier x = Due.hallOf("D./..");
            x.door(0, 1);
            x.keep(1);
            x.carrier(last == 0 ? 0 : 9, 0);
            x.carrier(last == 0 ? 9 : 0, 0);
            x.keep(0);
            x.back(1);
            x.door(0, 0);
            due.is("carrier " + last + " would be", x.back(0), STATE);
            due.is("none is", x.count(3), 0);
            x.door(0, 1);
            due.is("it is open", x.back(0), 0);
            due.is("they are there", x.count(3), 2);
        }
    }

    private void backChangesNothingRefused() {
        due.by("Refused, and nothing changes ... STATE");
        HallCarrier x = Due.hallOf("D./..");
        x.door(0, 1);
        x.carrier(0, 4);
        x.keep(0);
        x.act(0, 1);
        x.person(1, 8);
        x.tick(4);
        x.door(0, 0);
        due.is("refused", x.back(0), STATE);
        due.is("tick", x.count(6), 4);
        due.is("lines", x.count(5), 1);
        due.is("people", x.count(2), 1);
        due.is("carrier's cell", x.at(0, 1), 1);
        due.is("the image is still kept", x.door(0, 1), 0);
        due.is("back(0)", x.back(0), 0);
        due.is("carrier's cell", x.at(0, 1), 0);
    }

    private void counts() {
        due.by("0 CELLS, 1 doors, 2 PEOPLE, 3 CARRIERS, 4 ORDERS, 5 LINES, 6 TICK, 7 bytes of THE TEXT, 8 FREE CELLS.");
        HallCarrier x = Due.hallOf("DDDDDDDD/" + Due.floors(6, 8) + "/#######.");
        x.door(3, 1);
        for (int i = 0; i < 6; i++) {
            x.person(0, 63);
            x.order(63, 3, 200);
        }
        x.carrier(3, 0);
        x.carrier(63, 0);
        for (int i = 0; i < 100; i++) {
            x.act(0, 4);
        }
        Due.tickTo(x, 1000);
        for (int i = 0; i < 10; i++) {
            x.type(0, 8);
        }
        int[] most = {64, 8, 6, 2, 6, 100, 1000, 80, 50};
        for (int what = 0; what < most.length; what++) {
            due.is("count(" + what + ")", x.count(what), most[what]);
        }
        x.door(4, 1);
        due.is("count(8) with another door open", x.count(8), 51);
        due.is("count(1) stays", x.count(1), 8);
        HallCarrier y = new HallCarrier();
        for (int what : new int[] {-1, 9, 10, -9, 256, Integer.MIN_VALUE, Integer.MAX_VALUE}) {
            due.is("count(" + what + ") BAD", x.count(what), BAD);
            due.is("count(" + what + ") BAD, new", y.count(what), BAD);
        }
    }

    private void countsOfNone() {
        due.by("count: CELLS, FREE CELLS (none is FREE)");
        HallCarrier x = Due.hallOf("#D/D#");
        int[] counts = {4, 2, 0, 0, 0, 0, 0, 0, 0};
        for (int what = 0; what < counts.length; what++) {
            due.is("count(" + what + ")", x.count(what), counts[what]);
        }
    }

    private void traceStays() {
        due.by("THE TRACE (as often as charge() asks that body)");
        HallCarrier x = new HallCarrier();
        due.is("at first", x.trace(), 0);
        x.carrier(0, 0);
        x.keep(0);
        x.charge(3, 0);
        due.is("asked", x.trace(), 1101);
        due.is("asking it changes nothing", x.trace(), 1101);
        x.back(0);
        due.is("no image has it", x.trace(), 1101);
        x.act(0, 4);
        x.act(0, 1);
        x.tick(1);
        x.order(0, 9, 0);
        x.late();
        due.is("charge() alone asks", x.trace(), 1101);
        Due.tell(x, "../..");
        x.hall();
        due.is("behind hall()", x.trace(), 1101);
        x.carrier(0, 0);
        x.charge(4, 0);
        due.is("it goes on", x.trace(), 1101 + 10011);
    }
}
