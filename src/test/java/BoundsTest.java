// Terms 1 without its texts: for each sentence that names a bound, the last value that is taken and the first
// that is refused on both sides, the empty and the full, and that a refused call changes nothing.
public final class BoundsTest extends Checks {
    public static void main(String[] args) {
        constants();
        newObject();
        grounds();
        whens();
        pounds();
        spreads();
        tenHorses();
        horseNumbers();
        kinds();
        horseBounds();
        leads();
        days();
        formsByKind();
        youngAndOld();
        cutTowardZero();
        runs();
        fields();
        outsideTheField();
        parts();
        winsShared();
        comesIn();
        noBetter();
        evenOf();
        near();
        tellings();
        rulesForced();
        order();
        lastCall();
        end();
    }

    private static void constants() {
        sentence("NONE is -1; NO, where a long is answered; BAD (-2), STATE (-3), FULL (-4)");
        due("NONE", AtThePost.NONE, -1);
        due("BAD", AtThePost.BAD, -2);
        due("STATE", AtThePost.STATE, -3);
        due("FULL", AtThePost.FULL, -4);
        due("NO", AtThePost.NO, -4611686018427387904L);
    }

    private static void newObject() {
        sentence("A new object: no HORSES");
        int[] counts = {0, 0, 1, 0, 0, 1, 0};
        for (int what = 0; what < counts.length; what++) {
            due("count(" + what + ")", new AtThePost().count(what), counts[what]);
        }
        refused(Starts.NEW, "set(0, 0, 50)", x -> x.set(0, 0, 50), BAD);
        refused(Starts.NEW, "form(0, 0, 0)", x -> x.form(0, 0, 0), NO);
        refused(Starts.NEW, "told(0, 0)", x -> x.told(0, 0), -1000000);
        refused(Starts.NEW, "wins(1, 0, 0, 0)", x -> x.wins(1, 0, 0, 0), NO);
        refused(Starts.NEW, "comes(1, 0, 10, 0)", x -> x.comes(1, 0, 10, 0), NO);
        refused(Starts.NEW, "worse(1, 0, 0, 1, 0)", x -> x.worse(1, 0, 0, 1, 0), NO);
        refused(Starts.NEW, "even(1, 0, 0)", x -> x.even(1, 0, 0), NO);
        refused(Starts.NEW, "near(1, 0, 0)", x -> x.near(1, 0, 0), NO);
        refused(Starts.NEW, "lay(1, 0)", x -> x.lay(1, 0), BAD);
        refused(Starts.NEW, "race(0, 101, 0)", x -> x.race(0, 101, 0), BAD);
        refused(Starts.NEW, "raceTold(0, 0)", x -> x.raceTold(0, 0), -5);
        refused(Starts.NEW, "pair(0, 1, 0)", x -> x.pair(0, 1, 0), BAD);
        refused(Starts.NEW, "holding(1, 0, 0, 0, 0)", x -> x.holding(1, 0, 0, 0, 0), NO);
        refused(Starts.NEW, "yards(1, 0, 0)", x -> x.yards(1, 0, 0), BAD);
        refused(Starts.NEW, "season(1, 1, 0, 0, 0)", x -> x.season(1, 1, 0, 0, 0), BAD);
        refused(Starts.NEW, "back()", x -> x.back(), STATE);
        refused(Starts.NEW, "taken(0, 0)", x -> x.taken(0, 0), NOTHING_THERE);
        due("against(0, 0)", new AtThePost().against(0, 0), 0);
        due("learnt(0)", new AtThePost().learnt(0), 0);
    }

    private static void grounds() {
        sentence("GROUNDS 0 .. 3");
        within(Starts.SOME, "form(0, v, 0)", 0, 3, NO, (x, v) -> x.form(0, v, 0));
        within(Starts.SOME, "against(v, 0)", 0, 3, BAD, (x, v) -> x.against(v, 0));
        within(Starts.SOME, "learnt(v)", 0, 3, BAD, (x, v) -> x.learnt(v));
        within(Starts.SOME, "yards(3, v, 0)", 0, 3, BAD, (x, v) -> x.yards(3, v, 0));
        edges(Starts.SOME, "horse(0, 50, 5000 + v)", 0, 3, BAD, (x, v) -> x.horse(0, 50, 5000 + v));
        // 9 is the last digit that could be a GROUND.
        refused(Starts.SOME, "horse(0, 50, 5009)", x -> x.horse(0, 50, 5009), BAD);
    }

    private static void whens() {
        sentence("when: 100 times GROUND, and DAY");
        within(Starts.SOME, "wins(3, v, 0, 0)", 0, 399, NO, (x, v) -> x.wins(3, v, 0, 0));
        within(Starts.SOME, "comes(3, v, 101, 0)", 0, 399, NO, (x, v) -> x.comes(3, v, 101, 0));
        within(Starts.SOME, "worse(3, v, 0, 1, 0)", 0, 399, NO, (x, v) -> x.worse(3, v, 0, 1, 0));
        within(Starts.SOME, "even(3, v, 0)", 0, 399, NO, (x, v) -> x.even(3, v, 0));
        within(Starts.SOME, "near(3, v, 0)", 0, 399, NO, (x, v) -> x.near(3, v, 0));
        within(Starts.SOME, "lay(3, v)", 0, 399, BAD, (x, v) -> x.lay(3, v));
        // A PICKY one at home on ground 2 beside one that is always as good as it is at home.
        AtThePost x = steady(withHorses(50));
        x.horse(2, 50, 5012);
        int[] whens = {0, 99, 100, 199, 200, 299, 300, 399};
        for (int when : whens) {
            due("PICKY: wins(3, " + when + ", 1, 1)", x.wins(3, when, 1, 1), when / 100 == 2 ? 2 : 1);
        }
        AtThePost y = steady(withHorses(50));
        y.horse(4, 50, 5010);
        for (int when = 0; when < 400; when++) {
            due("SLY: wins(3, " + when + ", 1, 1)", y.wins(3, when, 1, 1), when % 100 % 7 == 0 ? 2 : 1);
        }
    }

    private static void pounds() {
        sentence("a POUND on each is worth 0 .. 9 (2 at first)");
        for (int g = 0; g < 4; g++) {
            int ground = g;
            due("pound(" + g + ", 0) of a new one", new AtThePost().pound(g, 0), 2);
            within(Starts.SOME, "pound(" + g + ", v)", 0, 9, BAD, (x, v) -> x.pound(ground, v));
            within(Starts.SOME, "against(" + g + ", v)", 0, 9, BAD, (x, v) -> x.against(ground, v));
        }
        within(Starts.SOME, "pound(v, 3)", 0, 4, BAD, (x, v) -> x.pound(v, 3));
        AtThePost x = new AtThePost();
        x.pound(0, 9);
        x.pound(3, 0);
        int[] were = {9, 2, 2, 0};
        for (int ground = 0; ground < 4; ground++) {
            due("what was on ground " + ground, x.pound(ground, 1), were[ground]);
            due("what is on ground " + ground, x.pound(ground, 1), 1);
        }
    }

    private static void spreads() {
        sentence("SPREAD (0 .. 3; 1 at first)");
        within(Starts.SOME, "pound(4, v)", 0, 3, BAD, (x, v) -> x.pound(4, v));
        AtThePost x = new AtThePost();
        due("at first", x.count(5), 1);
        due("what was", x.pound(4, 3), 1);
        due("what was, again", x.pound(4, 0), 3);
        due("what is", x.count(5), 0);
    }

    private static void tenHorses() {
        sentence("HORSES (10 at most, numbered from 0)");
        AtThePost x = new AtThePost();
        for (int h = 0; h < 10; h++) {
            due("count(0)", x.count(0), h);
            due("the horse's number", x.horse(h % 6, 90 + h, 2000 + 1000 * h), h);
        }
        due("count(0)", x.count(0), 10);
        for (int h = 0; h < 10; h++) {
            due("strength of " + h, x.told(h, 1), 90 + h);
        }
        refused(Starts.ALL, "an eleventh", y -> y.horse(0, 50, 5000), FULL);
    }

    private static void horseNumbers() {
        sentence("HORSES (numbered from 0): one that is none such");
        withHorse("set(v, 0, 50)", BAD, (x, v) -> x.set(v, 0, 50));
        withHorse("form(v, 0, 0)", NO, (x, v) -> x.form(v, 0, 0));
        withHorse("told(v, 0)", -1000000, (x, v) -> x.told(v, 0));
        withHorse("told(v, 9)", -1000000, (x, v) -> x.told(v, 9));
        withHorse("taken(v, 0)", NOTHING_THERE, (x, v) -> x.taken(v, 0));
        withHorse("pair(v, 2, 0)", BAD, (x, v) -> x.pair(v, 2, 0));
        withHorse("pair(2, v, 0)", BAD, (x, v) -> x.pair(2, v, 0));
        withHorse("wins(31, 0, v, 0)", NO, (x, v) -> x.wins(fieldOf(v), 0, v, 0));
        withHorse("worse(31, 0, v, 1, 0)", NO, (x, v) -> x.worse(fieldOf(v), 0, v, 1, 0));
        withHorse("holding(31, 2, v, 9, 1)", NO, (x, v) -> x.holding(fieldOf(v), 2, v, 9, 1));
        withHorse("yards(31, 0, v)", BAD, (x, v) -> x.yards(fieldOf(v), 0, v));
        withHorse("season(31, 3, 9, v, 0)", BAD, (x, v) -> x.season(fieldOf(v), 3, 9, v, 0));
        edges(Starts.SOME, "near(31, 0, 10 + v)", 0, 4, NO, (x, v) -> x.near(31, 0, 10 + v));
        edges(Starts.ALL, "near(992, 0, 10 + v)", 5, 9, NO, (x, v) -> x.near(992, 0, 10 + v));
        refusedFor(Starts.SOME, "near(31, 0, v)", NO, (x, v) -> x.near(31, 0, v), 42, Integer.MIN_VALUE, Integer.MAX_VALUE);
    }

    /** The five of the least numbers, or those of the greatest, if it is one of these. */
    private static int fieldOf(int horse) {
        return horse >= 5 && horse <= 10 ? 992 : 31;
    }

    /** 32 and -32 are 0 where a bit is shifted by a number's lowest five bits. */
    private static void withHorse(String call, long refusal, Varied c) {
        within(Starts.SOME, call, 0, 4, refusal, c);
        edges(Starts.ALL, call, 0, 9, refusal, c);
        refusedFor(Starts.SOME, call, refusal, c, 32, -32);
        refusedFor(Starts.NEW, call, refusal, c, 0);
    }

    private static void kinds() {
        sentence("a KIND: 0 HORSE .. 5 OLD");
        within(Starts.SOME, "horse(v, 50, 5000)", 0, 5, BAD, (x, v) -> x.horse(v, 50, 5000));
        for (int kind = 0; kind < 6; kind++) {
            AtThePost x = new AtThePost();
            x.horse(kind, 50, 5000);
            due("told(0, 0)", x.told(0, 0), kind);
        }
    }

    private static void horseBounds() {
        sentence("a STRENGTH (0 .. 99)");
        within(Starts.SOME, "horse(0, v, 5000)", 0, 99, BAD, (x, v) -> x.horse(0, v, 5000));
        within(Starts.SOME, "set(0, 0, v)", 0, 99, BAD, (x, v) -> x.set(0, 0, v));
        sentence("an AGE (2 .. 12)");
        edges(Starts.SOME, "horse(0, 50, 1000 * v)", 2, 12, BAD, (x, v) -> x.horse(0, 50, 1000 * v));
        within(Starts.SOME, "set(0, 1, v)", 2, 12, BAD, (x, v) -> x.set(0, 1, v));
        sentence("a NUMBER (0 .. 20)");
        edges(Starts.SOME, "horse(0, 50, 5000 + 10 * v)", 0, 20, BAD, (x, v) -> x.horse(0, 50, 5000 + 10 * v));
        sentence("rest: 1000 times AGE, 10 times NUMBER, and GROUND");
        within(Starts.SOME, "horse(0, 50, v)", 2000, 12203, BAD, (x, v) -> x.horse(0, 50, v));
        // 1998 and 13000 are beside an AGE by a thousandth only.
        refusedFor(Starts.SOME, "horse(0, 50, v)", BAD, (x, v) -> x.horse(0, 50, v),
                1998, 1000, 999, 0, -2000, -5000, 2204, 2210, 2999, 12004, 12210, 12999, 13000);
        told(2000, 2, 0, 0);
        told(2203, 2, 20, 3);
        told(12000, 12, 0, 0);
        told(12203, 12, 20, 3);
        told(7091, 7, 9, 1);
        sentence("STRENGTH, AGE, LEAD become v: what was");
        AtThePost x = withHorses(50);
        int[][] turns = {{0, 0, 50}, {0, 99, 0}, {0, 7, 99}, {1, 2, 5}, {1, 12, 2}, {1, 7, 12}, {2, 60, 0}, {2, 0, 60}};
        for (int[] turn : turns) {
            due("set(0, " + turn[0] + ", " + turn[1] + ")", x.set(0, turn[0], turn[1]), turn[2]);
        }
        within(Starts.SOME, "set(0, v, 12)", 0, 2, BAD, (y, v) -> y.set(0, v, 12));
    }

    private static void told(int rest, int age, int number, int ground) {
        AtThePost x = new AtThePost();
        x.horse(0, 50, rest);
        due("age of " + rest, x.told(0, 2), age);
        due("number of " + rest, x.told(0, 3), number);
        due("ground of " + rest, x.told(0, 4), ground);
    }

    private static void leads() {
        sentence("a LEAD (0 .. 60; 0 at first)");
        within(Starts.SOME, "set(1, 2, v)", 0, 60, BAD, (x, v) -> x.set(1, 2, v));
        AtThePost x = new AtThePost();
        for (int h = 0; h < 10; h++) {
            x.horse(h % 6, 50, 5000);
            due("lead of " + h + " at first", x.told(h, 5), 0);
        }
        due("none bears any", x.count(6), 0);
        for (int h = 0; h < 10; h++) {
            x.set(h, 2, 60);
        }
        due("all bear what they can", x.count(6), 600);
    }

    private static void days() {
        sentence("on a DAY (0 .. 99)");
        within(Starts.SOME, "form(3, 0, v)", 0, 99, NO, (x, v) -> x.form(3, 0, v));
    }

    private static void formsByKind() {
        AtThePost x = new AtThePost();
        x.horse(0, 0, 2200);
        x.horse(1, 0, 2200);
        x.horse(1, 99, 2000);
        x.horse(2, 99, 2200);
        x.horse(2, 0, 2203);
        x.horse(4, 0, 2200);
        x.horse(4, 99, 2200);
        sentence("HORSE: STRENGTH");
        due("form(0, 3, 99)", x.form(0, 3, 99), 0);
        sentence("HELD: NUMBER less than a HORSE's");
        due("the least", x.form(1, 0, 0), -20);
        due("the greatest", x.form(2, 0, 0), 99);
        sentence("PICKY: as a HORSE's; NUMBER less, if the GROUND isn't its own");
        int[][] picky = {{99, 79, 79, 79}, {-20, -20, -20, 0}};
        for (int ground = 0; ground < 4; ground++) {
            due("at home on 0, on " + ground, x.form(3, ground, 0), picky[0][ground]);
            due("at home on 3, on " + ground, x.form(4, ground, 0), picky[1][ground]);
        }
        sentence("SLY: on a DAY that is a multiple of 7 as a HORSE's, else as a HELD one's");
        for (int day = 0; day < 100; day++) {
            due("the least on day " + day, x.form(5, 1, day), day % 7 == 0 ? 0 : -20);
            due("the greatest on day " + day, x.form(6, 1, day), day % 7 == 0 ? 99 : 79);
        }
    }

    private static void youngAndOld() {
        int[][] gained = {
            {0, 0, 0, 0, 0, 0, 0, 0, 0, 0, 0},
            {2, 1, 1, 0, 0, 0, 0, 0, 0, 0, 0},
            {10, 7, 5, 2, 0, 0, 0, 0, 0, 0, 0},
            {40, 30, 20, 10, 0, 0, 0, 0, 0, 0, 0},
        };
        int[] numbers = {0, 1, 5, 20};
        for (int i = 0; i < numbers.length; i++) {
            AtThePost x = new AtThePost();
            x.horse(3, 99, 5000 + 10 * numbers[i]);
            x.horse(5, 0, 5000 + 10 * numbers[i]);
            for (int age = 2; age <= 12; age++) {
                x.set(0, 1, age);
                x.set(1, 1, age);
                sentence("YOUNG: as a HORSE's, and half (cut) of what its AGE is below 6 times NUMBER");
                due("age " + age + ", number " + numbers[i], x.form(0, 0, 0), 99 + gained[i][age - 2]);
                sentence("OLD: as a YOUNG one's, less its AGE");
                due("age " + age + ", number " + numbers[i], x.form(1, 0, 0), gained[i][age - 2] - age);
            }
        }
    }

    private static void cutTowardZero() {
        sentence("LEAD times POUND on that GROUND by 10, cut");
        for (int pound = 0; pound < 10; pound++) {
            AtThePost x = steady(withHorses(60, 60));
            x.pound(2, pound);
            for (int lead = 0; lead <= 60; lead++) {
                int tenths = lead * pound;
                x.set(0, 2, lead);
                // It is as good as one that is by so much weaker.
                x.set(1, 0, 60 - (tenths - tenths % 10) / 10);
                due(pound + " times " + lead + ": wins(3, 200, 0, 1)", x.wins(3, 200, 0, 1), 2);
                due(pound + " times " + lead + ": worse(3, 200, 0, 1, 0)", x.worse(3, 200, 0, 1, 0), 0);
            }
        }
    }

    private static void runs() {
        sentence("one of -SPREAD .. SPREAD (each alike, of each HORSE by itself)");
        for (int spread = 0; spread < 4; spread++) {
            int cases = (2 * spread + 1) * (2 * spread + 1);
            AtThePost x = withHorses(50, 50);
            x.pound(4, spread);
            if (spread > 0) {
                x.set(0, 0, 50 + 2 * spread - 1);
                due("just one case for the weak one, above", x.worse(3, 0, 0, 1, 0), 1);
                due("just one case for the weak one, below", x.worse(3, 0, 0, 1, 1), cases);
                due("it comes in first, below", x.comes(3, 0, 110, 1), cases);
            }
            x.set(0, 0, 50 + 2 * spread);
            due("none for it alone", x.worse(3, 0, 0, 1, 0), 0);
            due("half of one, above", x.wins(3, 0, 1, 0), 1);
            due("half of one, below", x.wins(3, 0, 1, 1), 2 * cases);
            x.set(0, 0, 50 + 2 * spread + 1);
            due("none at all", x.wins(3, 0, 1, 0), 0);
            due("all for the strong one", x.comes(3, 0, 101, 0) * 10 + x.comes(3, 0, 101, 1), 11);
        }
    }

    private static void fields() {
        sentence("FIELDS are sets of HORSES (bits), 1 to 5 of them");
        withField("wins(v, ..)", NO, (x, v) -> x.wins(v, 0, leastOf(v), 0));
        withField("comes(v, ..)", NO, (x, v) -> x.comes(v, 0, orderOf(v), 0));
        withField("worse(v, ..)", NO, (x, v) -> x.worse(v, 0, leastOf(v), 1, 0));
        withField("even(v, ..)", NO, (x, v) -> x.even(v, 0, 0));
        withField("near(v, ..)", NO, (x, v) -> x.near(v, 0, 0));
        withField("near(v, .., 10 and HORSE)", NO, (x, v) -> x.near(v, 0, 10 + leastOf(v)));
        withField("lay(v, ..)", BAD, (x, v) -> x.lay(v, 0));
        withField("holding(v, ..)", NO, (x, v) -> x.holding(v, 0, leastOf(v), 0, 0));
        withField("yards(v, ..)", BAD, (x, v) -> x.yards(v, 0, leastOf(v)));
        withField("season(v, ..)", BAD, (x, v) -> x.season(v, 1, 0, leastOf(v), 0));
    }

    private static void withField(String call, long refusal, Varied c) {
        int[] never = {0, -1, Integer.MIN_VALUE, Integer.MIN_VALUE + 1, Integer.MAX_VALUE};
        refusedFor(Starts.NEW, call, refusal, c, 1);
        takenFor(Starts.SOME, call, refusal, c, 1, 16, 30, 31);
        refusedFor(Starts.SOME, call, refusal, c, 32, 33, 63);
        refusedFor(Starts.SOME, call, refusal, c, never);
        takenFor(Starts.ALL, call, refusal, c, 1, 31, 512, 992, 1 + 4 + 16 + 64 + 256);
        refusedFor(Starts.ALL, call, refusal, c, 63, 1008, 1023, 1024, 1025, 1024 + 512);
        refusedFor(Starts.ALL, call, refusal, c, never);
    }

    private static int leastOf(int field) {
        return field == 0 ? 0 : Integer.numberOfTrailingZeros(field);
    }

    /** Those of the field by numbers; any order where there are none or too many. */
    private static int orderOf(int field) {
        int order = 1;
        for (int h = 0; h < 10 && order < 100000; h++) {
            order = (field >> h & 1) == 1 ? order * 10 + h : order;
        }
        return order;
    }

    private static void outsideTheField() {
        sentence("NO: none such, it isn't in the FIELD");
        refused(Starts.SOME, "wins(3, 0, 2, 0)", x -> x.wins(3, 0, 2, 0), NO);
        refused(Starts.SOME, "wins(30, 0, 0, 0)", x -> x.wins(30, 0, 0, 0), NO);
        refused(Starts.SOME, "worse(3, 0, 2, 1, 0)", x -> x.worse(3, 0, 2, 1, 0), NO);
        refused(Starts.SOME, "near(3, 0, 12)", x -> x.near(3, 0, 12), NO);
        refused(Starts.SOME, "holding(3, 0, 2, 0, 0)", x -> x.holding(3, 0, 2, 0, 0), NO);
        refused(Starts.SOME, "yards(3, 0, 2)", x -> x.yards(3, 0, 2), BAD);
    }

    private static void parts() {
        sentence("part 0 above, 1 below the line");
        within(Starts.SOME, "wins(3, 0, 0, v)", 0, 1, NO, (x, v) -> x.wins(3, 0, 0, v));
        within(Starts.SOME, "comes(3, 0, 101, v)", 0, 1, NO, (x, v) -> x.comes(3, 0, 101, v));
        within(Starts.SOME, "worse(3, 0, 0, 1, v)", 0, 1, NO, (x, v) -> x.worse(3, 0, 0, 1, v));
        within(Starts.SOME, "even(3, 0, v)", 0, 1, NO, (x, v) -> x.even(3, 0, v));
        sentence("in lowest terms");
        AtThePost x = steady(withHorses(50, 49, 49));
        due("of all, above", x.wins(7, 0, 0, 0), 1);
        due("of all, below", x.wins(7, 0, 0, 1), 1);
        due("of none, above", x.wins(7, 0, 1, 0), 0);
        due("of none, below", x.wins(7, 0, 1, 1), 1);
        due("worse of none, below", x.worse(7, 0, 0, 1, 1), 1);
        due("comes of none, below", x.comes(7, 0, 1012, 1), 1);
        due("even by all, above", x.even(7, 0, 0), 1);
        due("even by all, below", x.even(7, 0, 1), 1);
        due("even by none, below", x.even(6, 0, 1), 1);
    }

    private static void winsShared() {
        sentence("WINS: 60 by how many run as well as it (itself, too; cut) for each, by 60 times all CASES");
        for (int alike = 1; alike <= 5; alike++) {
            AtThePost x = steady(withHorses(50, 50, 50, 50, 50));
            for (int h = alike; h < 5; h++) {
                x.set(h, 0, 49);
            }
            due("one of " + alike + ", above", x.wins(31, 0, 0, 0), 1);
            due("one of " + alike + ", below", x.wins(31, 0, 0, 1), alike);
            due("the last one, above", x.wins(31, 0, 4, 0), alike == 5 ? 1 : 0);
        }
        AtThePost x = withHorses(50, 50, 50, 50, 50);
        x.pound(4, 3);
        due("five by all cases, above", x.wins(31, 0, 4, 0), 1);
        due("five by all cases, below", x.wins(31, 0, 4, 1), 5);
        // 56 by its least run (one of seven cases) is as good as the others by their greatest: of 6^4 = 1296 it is
        // alone, of 4 * 6^3 = 864 one of two, of 216 one of three, of 24 one of four, of 1 one of five, so it has
        // 60 * (6 * 2401 + 1296) + 30 * 864 + 20 * 216 + 15 * 24 + 12 = 972732 of 60 * 16807 = 1008420: by 12.
        x.set(0, 0, 56);
        due("one of one to five, above", x.wins(31, 0, 0, 0), 81061);
        due("one of one to five, below", x.wins(31, 0, 0, 1), 84035);
    }

    private static void comesIn() {
        sentence("COMES IN: an order of the FIELD (a 1 and the digits of all of it, the first one's first)");
        int[] taken = {1012, 1021, 1102, 1120, 1201, 1210};
        int[] refused = {1, 10, 11, 101, 112, 1000, 1011, 1013, 1022, 2012, 3012, 12, -1012, 0, 10012, 11012, 10120, 20120,
            Integer.MIN_VALUE, Integer.MAX_VALUE};
        takenFor(Starts.SOME, "comes(7, 0, v, 0)", NO, (x, v) -> x.comes(7, 0, v, 0), taken);
        refusedFor(Starts.SOME, "comes(7, 0, v, 0)", NO, (x, v) -> x.comes(7, 0, v, 0), refused);
        takenFor(Starts.SOME, "comes(1, 0, v, 0)", NO, (x, v) -> x.comes(1, 0, v, 0), 10);
        refusedFor(Starts.SOME, "comes(1, 0, v, 0)", NO, (x, v) -> x.comes(1, 0, v, 0), 0, 1, 9, 11, 20, 100, 110);
        takenFor(Starts.ALL, "comes(992, 0, v, 0)", NO, (x, v) -> x.comes(992, 0, v, 0), 156789, 198765);
        refusedFor(Starts.ALL, "comes(992, 0, v, 0)", NO, (x, v) -> x.comes(992, 0, v, 0),
                15678, 99999, 100000, 199999, 200000, 298765, 1567890, 1156789, 98765);
        sentence("CASES in which each runs better than the next one");
        AtThePost x = steady(withHorses(51, 50, 50));
        due("as well is not better", x.comes(7, 0, 1012, 0), 0);
        due("better", x.comes(3, 0, 101, 0), 1);
        x.set(2, 0, 49);
        due("each by one", x.comes(7, 0, 1012, 0), 1);
        AtThePost y = withHorses(50, 50, 50, 50, 50);
        due("five of three values", y.comes(31, 0, 143210, 0), 0);
        y.pound(4, 2);
        due("five of five values, above", y.comes(31, 0, 143210, 0), 1);
        due("five of five values, below", y.comes(31, 0, 143210, 1), 3125);
        y.pound(4, 3);
        due("five of seven values, above", y.comes(31, 0, 104321, 0), 3);
        due("five of seven values, below", y.comes(31, 0, 104321, 1), 2401);
    }

    private static void noBetter() {
        sentence("NO BETTER: CASES in which at least so many (1 .. 4) others run better than a HORSE");
        within(Starts.SOME, "worse(31, 0, 0, v, 0)", 1, 4, NO, (x, v) -> x.worse(31, 0, 0, v, 0));
        AtThePost x = steady(withHorses(10, 20, 30, 40, 50));
        for (int h = 0; h < 5; h++) {
            for (int many = 1; many < 5; many++) {
                due("worse(31, 0, " + h + ", " + many + ", 0)", x.worse(31, 0, h, many, 0), 4 - h >= many ? 1 : 0);
            }
        }
        for (int h = 0; h < 5; h++) {
            x.set(h, 0, 50);
        }
        due("as well is not better", x.worse(31, 0, 0, 1, 0), 0);
        x.pound(4, 3);
        // By 0 to 6 below the best run: 0 + 1 + 16 + 81 + 256 + 625 + 1296 of 16807.
        due("four of seven values, above", x.worse(31, 0, 2, 4, 0), 325);
        due("four of seven values, below", x.worse(31, 0, 2, 4, 1), 2401);
    }

    private static void evenOf() {
        sentence("EVEN: the greatest WINS of the FIELD less the least one");
        AtThePost x = withHorses(50, 51, 52, 53, 54, 55, 56, 57, 58, 99);
        due("of one alone, above", x.even(512, 0, 0), 0);
        due("of one alone, below", x.even(512, 0, 1), 1);
        due("of the last two, above", x.even(768, 0, 0), 1);
        due("of the first two, above", x.even(3, 0, 0), 5);
        due("of the first two, below", x.even(3, 0, 1), 9);
        due("the greatest one need not be the last", x.even(513, 0, 0), 1);
    }

    private static void near() {
        sentence("NEAR: what 0 turns, 1, 2 EVEN then (above, below), 10 and HORSE");
        takenFor(Starts.SOME, "near(1, 0, v)", NO, (x, v) -> x.near(1, 0, v), 0, 1, 2, 10);
        refusedFor(Starts.SOME, "near(1, 0, v)", NO, (x, v) -> x.near(1, 0, v), -1, 3, 9, 11, -10);
        sentence("the HORSE with the greatest WINS has 1 more, as long as EVEN becomes less by it");
        // A pound of 9: LEAD 1 is worth nothing, each one more is worth 1, up to LEAD 10.
        AtThePost x = bearing(withHorses(52, 50, 50), 1, 1);
        x.pound(0, 9);
        due("turns", x.near(3, 0, 0), 2);
        due("even then", x.near(3, 0, 1) * 10 + x.near(3, 0, 2), 1);
        due("leads then", x.near(3, 0, 10) * 100 + x.near(3, 0, 11), 301);
        x.set(0, 2, 0);
        due("a pound that is worth nothing makes it no less", x.near(3, 0, 0), 0);
        x.set(0, 2, 1);
        x.set(0, 0, 50);
        due("of like ones none has more", x.near(3, 0, 0), 0);
        due("one alone is even", x.near(1, 0, 0) + x.near(1, 0, 1), 0);
        x.pound(4, 0);
        x.set(0, 0, 51);
        due("without a spread: by one turn", x.near(3, 0, 0), 1);
        x.set(0, 0, 52);
        due("without a spread: none helps", x.near(3, 0, 0), 0);
        nearOfOthers();
        sentence("no LEAD is above 60");
        AtThePost y = bearing(withHorses(99, 42), 58);
        y.pound(0, 9);
        y.pound(4, 3);
        due("from 58: turns", y.near(3, 0, 0), 2);
        due("from 58: lead then", y.near(3, 0, 10), 60);
        y.set(0, 2, 60);
        due("from 60: turns", y.near(3, 0, 0), 0);
        due("from 60: lead then", y.near(3, 0, 10), 60);
        due("of 12 more it would become less", y.even(3, 0, 0) > 0 ? 1 : 0, 1);
        sentence("NEAR: nothing changes; LAID: it is so then");
        changesNothing(Starts.SOME, "near(31, 0, 0)", z -> z.near(31, 0, 0));
        changesNothing(Starts.SOME, "near(31, 0, 10)", z -> z.near(31, 0, 10));
        y.set(0, 2, 58);
        due("lay(3, 0)", y.lay(3, 0), 2);
        due("laid", y.told(0, 5), 60);
        due("lay(3, 0) again", y.lay(3, 0), 0);
    }

    private static void nearOfOthers() {
        sentence("NEAR: EVEN then (above, below), by the HORSE with the greatest WINS");
        // With LEAD 9 it is 52 to 50, with 10 it is 51 to 50, and 11 is worth no more than 10.
        AtThePost x = bearing(withHorses(60, 50), 9);
        x.pound(0, 9);
        due("turns", x.near(3, 0, 0), 1);
        due("above", x.near(3, 0, 1), 5);
        due("below", x.near(3, 0, 2), 9);
        AtThePost ten = withHorses(50, 50, 50, 50, 50, 50, 50, 50, 50, 50);
        ten.pound(0, 9);
        for (int h = 1; h < 10; h++) {
            ten.set(h, 0, 52);
            ten.set(h, 2, 1);
            due("turns of " + h + " and 0", ten.near(1 << h | 1, 0, 0), 2);
            due("lead of " + h + " then", ten.near(1 << h | 1, 0, 10 + h), 3);
            due("lead of 0 then", ten.near(1 << h | 1, 0, 10), 0);
            due("laid", ten.lay(1 << h | 1, 0), 2);
            due("lead of " + h, ten.told(h, 5), 3);
        }
        due("all leads", ten.count(6), 27);
    }

    private static void tellings() {
        sentence("Of a HORSE: 0 KIND .. 9 what say comes to. -1000000: none such");
        within(Starts.SOME, "told(1, v)", 0, 9, -1000000, (x, v) -> x.told(1, v));
        sentence("How many: 0 HORSES .. 6 all LEADS. BAD");
        within(Starts.SOME, "count(v)", 0, 6, BAD, (x, v) -> x.count(v));
        sentence("Nothing changes by what only tells");
        changesNothing(Starts.SOME, "told(1, 9)", x -> x.told(1, 9));
        changesNothing(Starts.SOME, "form(1, 0, 0)", x -> x.form(1, 0, 0));
        changesNothing(Starts.SOME, "wins(31, 0, 1, 0)", x -> x.wins(31, 0, 1, 0));
        changesNothing(Starts.SOME, "comes(31, 0, 143210, 0)", x -> x.comes(31, 0, 143210, 0));
        changesNothing(Starts.SOME, "worse(31, 0, 1, 1, 0)", x -> x.worse(31, 0, 1, 1, 0));
        changesNothing(Starts.SOME, "even(31, 0, 0)", x -> x.even(31, 0, 0));
        changesNothing(Starts.SOME, "count(6)", x -> x.count(6));
        changesNothing(Starts.SOME, "taken(4, 2)", x -> x.taken(4, 2));
    }

    private static void rulesForced() {
        sentence("A TEXT is THE RULE: which was. BAD");
        within(Starts.NEW, "force(v)", 0, 0, BAD, (x, v) -> x.force(v));
        within(Starts.SOME, "force(v)", 0, 1, BAD, (x, v) -> x.force(v));
        within(Starts.ALL, "force(v)", 0, 5, BAD, (x, v) -> x.force(v));
        AtThePost x = Starts.ALL.made();
        due("the last one was", x.force(0), 5);
        due("it is TEXT 0", x.count(4), 0);
        due("TEXT 0 was", x.force(5), 0);
        due("itself was", x.force(5), 5);
    }

    private static void order() {
        sentence("Refusals, the first that the call's words name");
        refused(Starts.ALL, "horse: BAD ahead of FULL", x -> x.horse(6, 50, 5000), BAD);
        refused(Starts.ALL, "horse: BAD rest ahead of FULL", x -> x.horse(0, 50, 1999), BAD);
        refused(Starts.ALL, "feed: BAD ahead of FULL", x -> x.feed(9, 0L), BAD);
        refused(Starts.ALL, "race: BAD ahead of FULL", x -> x.race(49, 101, 0), BAD);
        refused(Starts.ALL, "race: BAD anew ahead of FULL", x -> x.race(50, 101, 2), BAD);
        refused(Starts.ALL, "taken: BAD ahead of -11", x -> x.taken(10, 6), BAD);
    }

    /** Six calls at first and five in each of 101 turns, of those that put something by. */
    private static void lastCall() {
        sentence("An object is used for at most 512 calls");
        AtThePost x = withHorses(50, 50, 50, 50, 50);
        x.image();
        for (int turn = 0; turn < 101; turn++) {
            due("race(0, 104321, 1) in turn " + turn, x.race(0, 104321, 1), 0);
            due("feed(8, 0) in turn " + turn, x.feed(8, 0L), 8);
            due("text() in turn " + turn, x.text(), -100);
            due("sheet() in turn " + turn, x.sheet(turn % 3, turn % 3, 40), 1);
            due("back() in turn " + turn, x.back(), 0);
        }
        due("the 512th", x.holding(31, 5, 0, 999, 1), 0);
        AtThePost y = withHorses(51, 50);
        for (int turn = 0; turn < 254; turn++) {
            due("season in turn " + turn, y.season(3, 12, 0, 0, 0) + y.season(3, 12, 0, 1, 0), 12);
        }
        due("the 511th", y.told(0, 5), 0);
        due("the 512th", y.wins(3, 0, 0, 0), 7);
    }
}
