/** Counts answers that are not the ones that are due. */
final class Due {
    private int checked = 0;
    private int wrong = 0;

    void is(String call, long got, long want) {
        checked++;
        if (got != want) {
            wrong++;
            System.out.println(call + " answered " + got + ", due is " + want);
        }
    }

    void holds(String what, boolean so) {
        checked++;
        if (!so) {
            wrong++;
            System.out.println("does not hold: " + what);
        }
    }

    void end() {
        System.out.println(checked + " checked, " + wrong + " wrong");
        if (wrong != 0) {
            System.exit(1);
        }
    }

    /** A new object whose hall is told by a text. */
    static HallCarrier hallOf(String text) {
        HallCarrier x = new HallCarrier();
        tell(x, text);
        if (x.hall() < 0) {
            System.out.println("no hall: " + text);
            System.exit(1);
        }
        return x;
    }

    static void tell(HallCarrier x, String text) {
        for (int i = 0; i < text.length(); i++) {
            x.type(text.charAt(i), 1);
        }
    }

    /** What hall() answers for a text, on a new object. */
    static int hallAnswer(String text) {
        HallCarrier x = new HallCarrier();
        tell(x, text);
        return x.hall();
    }

    static long cells(int... cells) {
        long set = 0;
        for (int cell : cells) {
            set |= 1L << cell;
        }
        return set;
    }
}
