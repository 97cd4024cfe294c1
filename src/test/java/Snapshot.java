import java.util.ArrayList;
import java.util.List;
import java.util.function.Supplier;

/**
 * All that can be asked of an object, images, doors and the text among it. Each part asks an
 * object that is made anew, as some parts change it, and so that none comes to 512 calls.
 */
final class Snapshot {
    private static final int[] TICKS = {0, 1, 2, 20};

    private final List<String> answers = new ArrayList<>();
    private final Supplier<HallCarrier> made;

    private Snapshot(Supplier<HallCarrier> made) {
        this.made = made;
    }

    static List<String> of(Supplier<HallCarrier> made) {
        Snapshot s = new Snapshot(made);
        s.hall(made.get());
        s.people(made.get());
        s.ways(made.get());
        s.lines(made.get(), 0, 50);
        s.lines(made.get(), 50, 100);
        s.rest(made.get());
        s.image(0);
        s.image(1);
        s.text(made.get());
        s.doors(made.get());
        return s.answers;
    }

    /** What is not alike, or "" if all is. */
    static String difference(List<String> before, List<String> after) {
        for (int i = 0; i < before.size(); i++) {
            if (!before.get(i).equals(after.get(i))) {
                return before.get(i) + " has become " + after.get(i);
            }
        }
        return "";
    }

    private void add(String call, long answer) {
        answers.add(call + " = " + answer);
    }

    private void counts(HallCarrier x) {
        for (int what = 0; what < 9; what++) {
            add("count(" + what + ")", x.count(what));
        }
    }

    private void hall(HallCarrier x) {
        counts(x);
        for (int cell = 0; cell < 64; cell++) {
            add("sign(" + cell + ")", x.sign(cell));
            add("sees(" + cell + ")", x.sees(cell));
        }
    }

    private void bodies(HallCarrier x) {
        for (int i = 0; i < 6; i++) {
            add("at(" + i + ", 0)", x.at(i, 0));
            add("at(" + i + ", 2)", x.at(i, 2));
        }
        for (int i = 0; i < 2; i++) {
            add("at(" + i + ", 1)", x.at(i, 1));
            add("at(" + i + ", 3)", x.at(i, 3));
            for (int cell = 0; cell < 64; cell++) {
                add("age(" + i + ", " + cell + ")", x.age(i, cell));
            }
        }
    }

    private void people(HallCarrier x) {
        bodies(x);
        for (int ticks : TICKS) {
            for (int i = 0; i < 6; i++) {
                add("could(" + i + ", " + ticks + ")", x.could(i, ticks));
            }
            for (int i = 0; i < 2; i++) {
                add("anybody(" + i + ", " + ticks + ")", x.anybody(i, ticks));
            }
        }
        add("let(0)", x.let(0));
        add("let(1)", x.let(1));
    }

    private void ways(HallCarrier x) {
        for (int i = 0; i < 2; i++) {
            for (int cell = 0; cell < 64; cell++) {
                add("soonest(" + i + ", " + cell + ", 0)", x.soonest(i, cell, 0));
                add("soonest(" + i + ", " + cell + ", 1)", x.soonest(i, cell, 1));
            }
        }
    }

    private void lines(HallCarrier x, int from, int to) {
        for (int i = from; i < to; i++) {
            for (int what = 0; what < 5; what++) {
                add("line(" + i + ", " + what + ")", x.line(i, what));
            }
        }
    }

    private void rest(HallCarrier x) {
        add("where()", x.where());
        add("tells(0)", x.tells(0));
        add("tells(1)", x.tells(1));
        add("late()", x.late());
        for (int k = 0; k < 7; k++) {
            add("served(0, " + k + ")", x.served(0, k));
            add("served(1, " + k + ")", x.served(1, k));
        }
        add("trace()", x.trace());
    }

    /** What an image holds can be asked only behind back(). */
    private void image(int i) {
        HallCarrier x = made.get();
        add("back(" + i + ")", x.back(i));
        counts(x);
        bodies(x);
        HallCarrier y = made.get();
        y.back(i);
        lines(y, 0, 50);
        HallCarrier z = made.get();
        z.back(i);
        lines(z, 50, 100);
    }

    /** What the text holds can be asked only behind hall(). */
    private void text(HallCarrier x) {
        add("hall()", x.hall());
        hall(x);
        add("clear()", x.clear());
    }

    private void doors(HallCarrier x) {
        for (int i = 0; i < 8; i++) {
            add("door(" + i + ", 1)", x.door(i, 1));
            add("where()", x.where());
        }
    }
}
