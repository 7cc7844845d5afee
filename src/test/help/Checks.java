// What the tests share: a sentence of the document that is tested, and calls whose answers are due by it.
class Checks {
    static final long NO = -4611686018427387904L;
    static final int BAD = -2, STATE = -3, FULL = -4;
    static final int NOTHING_THERE = -11, OUTSIDE = -12, OTHER_SORT = -13, SIZE_BELOW_ZERO = -14;

    private static int wrong = 0;
    private static String words = "";

    interface Call {
        long on(AtThePost x);
    }

    interface Varied {
        long on(AtThePost x, int v);
    }

    /** Makes an object in some state, the same one each time. */
    interface Start {
        AtThePost made();
    }

    static void sentence(String tested) {
        words = tested;
    }

    static void due(String call, long got, long want) {
        if (got != want) {
            wrong++;
            System.out.println(words + ": " + call + " answered " + got + ", due is " + want);
        }
    }

    static void end() {
        System.out.println(wrong == 0 ? "all answers are as due" : wrong + " answers are not as due");
        if (wrong != 0) {
            System.exit(1);
        }
    }

    /** The call answers so and leaves all that can be seen as it was. */
    static void refused(Start start, String call, Call c, long want) {
        due(call, c.on(start.made()), want);
        due("what " + call + " changed", Twin.changes(start, c), 0);
    }

    static void changesNothing(Start start, String call, Call c) {
        due("what " + call + " changed", Twin.changes(start, c), 0);
    }

    static void refusedFor(Start start, String call, long refusal, Varied c, int... values) {
        for (int v : values) {
            refused(start, call + " with " + v, x -> c.on(x, v), refusal);
        }
    }

    static void takenFor(Start start, String call, long refusal, Varied c, int... values) {
        for (int v : values) {
            long got = c.on(start.made(), v);
            due(call + " with " + v + ", which answered " + got + ", is taken", got == refusal ? 0 : 1, 1);
        }
    }

    /** The last value that is taken and the first that is refused, on both sides. */
    static void edges(Start start, String call, int least, int most, long refusal, Varied c) {
        takenFor(start, call, refusal, c, least, most);
        refusedFor(start, call, refusal, c, least - 1, most + 1);
    }

    /** The edges, and what lies as far off as it can. */
    static void within(Start start, String call, int least, int most, long refusal, Varied c) {
        edges(start, call, least, most, refusal, c);
        refusedFor(start, call, refusal, c, Integer.MIN_VALUE, Integer.MAX_VALUE);
    }

    static void fed(AtThePost x, String text) {
        for (int i = 0; i < text.length(); i += 8) {
            int n = Math.min(8, text.length() - i);
            long bytes = 0;
            for (int k = 0; k < n; k++) {
                bytes |= (long) (text.charAt(i + k) & 255) << 8 * k;
            }
            x.feed(n, bytes);
        }
    }

    static AtThePost withHorses(int... strengths) {
        AtThePost x = new AtThePost();
        for (int strength : strengths) {
            x.horse(0, strength, 5000);
        }
        return x;
    }

    static AtThePost ruledBy(AtThePost x, String text) {
        fed(x, text);
        int number = x.text();
        due("text() of " + text + " is one", number > 0 ? 1 : 0, 1);
        x.force(number);
        return x;
    }

    /** Without a spread, so that each one's run is told by its form and its lead. */
    static AtThePost steady(AtThePost x) {
        x.pound(4, 0);
        return x;
    }

    static AtThePost bearing(AtThePost x, int... leads) {
        for (int h = 0; h < leads.length; h++) {
            x.set(h, 2, leads[h]);
        }
        return x;
    }
}
