import java.util.Arrays;

/** Counts answers that are not the ones that are due. */
final class Due {
    static final int BAD = -1, STATE = -2, FULL = -3, NONE = -9;
    /** Cell numbers that no hall has, those among them that a shift or a mask would take for one. */
    static final int[] NO_CELLS = {-1, 64, -8, -64, -55, 73, 256, Integer.MIN_VALUE, Integer.MAX_VALUE};
    static final String CORRIDOR = "......../########";
    /** One way of 36 cells, from the first cell to 56. */
    static final String WINDING = "......../#######./......../.#######/......../#######./......../.#######";

    private int checked = 0;
    private int wrong = 0;
    private String sentence = "";

    /** The document's words by which the next answers are due. */
    void by(String words) {
        sentence = words;
    }

    void is(String call, long got, long want) {
        checked++;
        if (got != want) {
            tellWrong(call + " answered " + got + ", due is " + want);
        }
    }

    void holds(String what, boolean so) {
        checked++;
        if (!so) {
            tellWrong("does not hold: " + what);
        }
    }

    private void tellWrong(String what) {
        wrong++;
        System.out.println(sentence.isEmpty() ? what : what + " [" + sentence + "]");
    }

    void end() {
        System.out.println(checked + " checked, " + wrong + " wrong");
        if (wrong != 0) {
            System.exit(1);
        }
    }

    /** A new object whose hall is told by a text. */
    static HallCarrier hallOf(String text) {
        HallCarrier x = new HallCarrier();
        tell(x, text);
        if (x.hall() < 0) {
            System.out.println("no hall: " + text);
            System.exit(1);
        }
        return x;
    }

    static void tell(HallCarrier x, String text) {
        for (int i = 0; i < text.length(); i++) {
            x.type(text.charAt(i), 1);
        }
    }

    /** What hall() answers for a text, on a new object. */
    static int hallAnswer(String text) {
        HallCarrier x = new HallCarrier();
        tell(x, text);
        return x.hall();
    }

    /** A text of so many rows of so many floors. */
    static String floors(int rows, int signs) {
        String[] all = new String[rows];
        Arrays.fill(all, ".".repeat(signs));
        return String.join("/", all);
    }

    /** Lets ticks come until a tick, by as few calls as can be. */
    static void tickTo(HallCarrier x, int tick) {
        for (int left = tick - x.count(6); left > 0; left -= Math.min(left, 50)) {
            x.tick(Math.min(left, 50));
        }
    }

    static long cells(int... cells) {
        long set = 0;
        for (int cell : cells) {
            set |= 1L << cell;
        }
        return set;
    }
}
