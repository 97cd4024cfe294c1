import java.util.ArrayList;
import java.util.List;
import java.util.Random;

/** Runs of calls by a fixed seed, each answer compared with the plain model's. */
public final class ModelTest {
    private static final int RUNS = 700;
    private static final int CROWDED_RUNS = 300;
    /** With those that only look where a person is, an object stays within the document's 512 calls. */
    private static final int CALLS = 480;
    private static final int LAST_HALL = 350;
    private static final int KINDS_OF_CALLS = 31;
    private static final int ORDERS_CALLS_A_RUN = 25;

    private final Random random;
    private final HallCarrier x = new HallCarrier();
    private final PlainHall model = new PlainHall();
    private final List<String> calls = new ArrayList<>();
    private int width = 2;
    private int height = 2;
    private int planned = 0;
    private boolean crowded = false;
    private boolean differs = false;

    private ModelTest(long seed) {
        random = new Random(seed);
    }

    public static void main(String[] args) {
        int[] asked = new int[1];
        for (int run = 0; run < RUNS + CROWDED_RUNS; run++) {
            ModelTest test = new ModelTest(run);
            if (run >= RUNS) {
                test.readHall();
                test.crowd();
            }
            if (!test.runAlike()) {
                System.out.println("run with seed " + run);
                System.exit(1);
            }
            asked[0] += test.calls.size();
        }
        System.out.println(asked[0] + " answers are as the plain model's");
    }

    private boolean runAlike() {
        while (calls.size() < CALLS && !differs) {
            boolean another = calls.isEmpty() ? random.nextInt(20) != 0 : random.nextInt(90) == 0;
            if (another && !crowded && calls.size() < LAST_HALL) {
                readHall();
                furnish();
            } else {
                oneCall(random.nextInt(KINDS_OF_CALLS));
            }
        }
        if (differs) {
            for (int i = Math.max(0, calls.size() - 60); i < calls.size(); i++) {
                System.out.println(calls.get(i));
            }
        }
        return !differs;
    }

    private void same(String call, long got, long want) {
        calls.add(call + " = " + got);
        if (got != want && !differs) {
            differs = true;
            calls.add("  due was " + want);
        }
    }

    private boolean rarely() {
        return random.nextInt(25) == 0;
    }

    /** A number of 0 .. most - 1, rarely one beyond. */
    private int number(int most) {
        if (rarely()) {
            int[] beyond = {-1, most, most + 1, Integer.MIN_VALUE, Integer.MAX_VALUE, -random.nextInt(1000), random.nextInt(1000)};
            return beyond[random.nextInt(beyond.length)];
        }
        return random.nextInt(most);
    }

    private int cell() {
        return rarely() ? number(64) : 8 * random.nextInt(height) + random.nextInt(width);
    }

    private String hallText() {
        width = 2 + random.nextInt(7);
        height = 2 + random.nextInt(7);
        int walls = random.nextInt(40);
        int doors = random.nextInt(25);
        String marks = random.nextBoolean() ? "123456789" : "5";
        int doorsLeft = 8;
        StringBuilder s = new StringBuilder();
        for (int y = 0; y < height; y++) {
            for (int k = 0; k < width; k++) {
                int r = random.nextInt(100);
                if (r < walls) {
                    s.append('#');
                } else if (r < walls + doors && doorsLeft > 0) {
                    s.append('D');
                    doorsLeft--;
                } else if (r > 92 && !marks.isEmpty()) {
                    int m = random.nextInt(marks.length());
                    s.append(marks.charAt(m));
                    marks = marks.replace(marks.substring(m, m + 1), "");
                } else {
                    s.append('.');
                }
            }
            if (y < height - 1) {
                s.append('/');
            }
        }
        return s.toString();
    }

    private void spoil(StringBuilder s) {
        String bytes = "./#D15x0 \u00c8";
        int place = random.nextInt(s.length());
        char c = bytes.charAt(random.nextInt(bytes.length()));
        switch (random.nextInt(3)) {
            case 0: s.setCharAt(place, c); break;
            case 1: s.insert(place, c); break;
            default: s.deleteCharAt(place); break;
        }
    }

    private void typeAll(String s) {
        int place = 0;
        while (place < s.length()) {
            int n = Math.min(1 + random.nextInt(8), s.length() - place);
            long v = n == 8 ? 0 : random.nextLong() << 8 * n;
            for (int k = 0; k < n; k++) {
                v |= (long) s.charAt(place + k) << 8 * (n - 1 - k);
            }
            same("type(" + v + ", " + n + ")", x.type(v, n), model.type(v, n));
            place += n;
        }
    }

    /** A hall that can be read, at times behind some that can't. */
    private void readHall() {
        int spoilt = random.nextInt(3);
        for (int i = 0; i <= spoilt; i++) {
            same("clear()", x.clear(), model.clear());
            StringBuilder s = new StringBuilder(hallText());
            if (i < spoilt) {
                spoil(s);
            }
            typeAll(s.toString());
            same("hall() of " + s, x.hall(), model.hall());
        }
        // A text that was spoilt may have been good all the same; the last one is what counts.
    }

    private void furnish() {
        int doors = random.nextInt(9);
        for (int i = 0; i < doors; i++) {
            oneCall(3);
        }
        int bodies = random.nextInt(10);
        for (int i = 0; i < bodies; i++) {
            oneCall(5 + random.nextInt(2));
        }
    }

    /** Brings all that has a limit near to it, so that the calls that follow come to it and are refused. */
    private void crowd() {
        crowded = true;
        furnish();
        for (int i = 0; i < 14; i++) {
            oneCall(5);
            oneCall(6);
            oneCall(23);
        }
        for (int i = 0; i < 97; i++) {
            int a = i & 1;
            same("act(" + a + ", 4)", x.act(a, 4), model.act(a, 4));
            if (i % 10 == 0) {
                oneCall(12);
            }
        }
        for (int i = 0; i < 19; i++) {
            int n = 46 + random.nextInt(5);
            same("tick(" + n + ")", x.tick(n), model.tick(n));
        }
        for (int i = 0; i < 9; i++) {
            same("type(46, 8)", x.type(46L, 8), model.type(46L, 8));
        }
    }

    private void oneCall(int kind) {
        int a = 0, b = 0, c = 0;
        switch (kind) {
            case 0:
                if (random.nextInt(4) == 0) {
                    long v = random.nextLong();
                    a = number(9);
                    same("type(" + v + ", " + a + ")", x.type(v, a), model.type(v, a));
                }
                break;
            case 1:
                if (random.nextInt(4) == 0) {
                    same("clear()", x.clear(), model.clear());
                }
                break;
            case 2: a = cell(); same("sign(" + a + ")", x.sign(a), model.sign(a)); break;
            case 3: a = number(8); b = number(2); same("door(" + a + ", " + b + ")", x.door(a, b), model.door(a, b)); break;
            case 4: a = cell(); same("sees(" + a + ")", x.sees(a), model.sees(a)); break;
            case 5: a = number(4); b = cell(); same("person(" + a + ", " + b + ")", x.person(a, b), model.person(a, b)); break;
            case 6: a = cell(); b = number(10); same("carrier(" + a + ", " + b + ")", x.carrier(a, b), model.carrier(a, b)); break;
            case 7: a = number(6); b = number(4); same("at(" + a + ", " + b + ")", x.at(a, b), model.at(a, b)); break;
            case 8: a = number(6); b = few(21); same("could(" + a + ", " + b + ")", x.could(a, b), model.could(a, b)); break;
            case 9: a = number(2); b = few(21); same("anybody(" + a + ", " + b + ")", x.anybody(a, b), model.anybody(a, b)); break;
            case 10: a = number(2); same("let(" + a + ")", x.let(a), model.let(a)); break;
            case 11: a = number(2); b = cell(); c = number(2);
                same("soonest(" + a + ", " + b + ", " + c + ")", x.soonest(a, b, c), model.soonest(a, b, c)); break;
            case 12: a = number(2); b = number(5); same("act(" + a + ", " + b + ")", x.act(a, b), model.act(a, b)); break;
            case 13: a = number(6); b = nearPerson(a); same("walk(" + a + ", " + b + ")", x.walk(a, b), model.walk(a, b)); break;
            case 14: a = number(random.nextInt(4) == 0 ? 51 : 4); same("tick(" + a + ")", x.tick(a), model.tick(a)); break;
            case 15: a = number(10); b = number(5); same("line(" + a + ", " + b + ")", x.line(a, b), model.line(a, b)); break;
            case 16: a = number(2); b = cell(); same("age(" + a + ", " + b + ")", x.age(a, b), model.age(a, b)); break;
            case 17: a = number(7); b = number(2); same("charge(" + a + ", " + b + ")", x.charge(a, b), model.charge(a, b)); break;
            case 18:
                if (random.nextInt(3) == 0) {
                    same("lost()", x.lost(), model.lost());
                }
                break;
            case 19: a = number(16); b = random.nextInt(3) == 0 ? number(10) : 0;
                same("look(" + a + ", " + b + ")", x.look(a, b), model.look(a, b)); break;
            case 20: a = number(4); same("step(" + a + ")", x.step(a), model.step(a)); break;
            case 21: same("where()", x.where(), model.where()); break;
            case 22: a = number(2); same("tells(" + a + ")", x.tells(a), model.tells(a)); break;
            case 23: a = cell(); b = cell(); c = few(201);
                same("order(" + a + ", " + b + ", " + c + ")", x.order(a, b, c), model.order(a, b, c)); break;
            case 24:
                if (planned++ < ORDERS_CALLS_A_RUN) {
                    same("late()", x.late(), model.late());
                }
                break;
            case 25:
                if (planned++ < ORDERS_CALLS_A_RUN) {
                    a = number(2);
                    b = number(6);
                    same("served(" + a + ", " + b + ")", x.served(a, b), model.served(a, b));
                }
                break;
            case 26: a = number(2); same("keep(" + a + ")", x.keep(a), model.keep(a)); break;
            case 27: a = number(2); same("back(" + a + ")", x.back(a), model.back(a)); break;
            case 28: a = number(9); same("count(" + a + ")", x.count(a), model.count(a)); break;
            case 29: same("trace()", x.trace(), model.trace()); break;
            default:
                if (random.nextInt(4) == 0) {
                    same("hall()", x.hall(), model.hall());
                    width = 8;
                    height = 8;
                }
                break;
        }
    }

    /** Mostly a small number, at times any up to most - 1. */
    private int few(int most) {
        return random.nextBoolean() ? number(4) : number(most);
    }

    private int nearPerson(int i) {
        int from = x.at(i, 0);
        if (from < 0 || rarely()) {
            return cell();
        }
        int[] by = {-8, 1, 8, -1, 0, 2, -2, 9, 7, -16};
        return from + by[random.nextInt(by.length)];
    }
}
