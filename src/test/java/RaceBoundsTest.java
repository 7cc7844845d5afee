// Terms 2: bounds of races, of what is learnt from them, of holding back, of seasons and of the image.
public final class RaceBoundsTest extends Checks {
    public static void main(String[] args) {
        races();
        daysOfRaces();
        ordersOfRaces();
        leadsAnew();
        racesTold();
        wonAndRan();
        against();
        learnt();
        pairs();
        holdingBounds();
        holdingWins();
        holdingLeads();
        holdingPaid();
        holdingAlike();
        yards();
        seasonBounds();
        seasonLots();
        seasonPlaces();
        seasonOutside();
        image();
        back();
        end();
    }

    private static void races() {
        sentence("RACES (24 at most, numbered from 0)");
        AtThePost x = withHorses(50, 50);
        for (int r = 0; r < 24; r++) {
            due("count(1)", x.count(1), r);
            due("the race's number", x.race(r, r % 2 == 0 ? 101 : 110, 0), r);
        }
        due("count(1)", x.count(1), 24);
        for (int r = 0; r < 24; r++) {
            due("day of " + r, x.raceTold(r, 1), r);
            due("winner of " + r, x.raceTold(r, 3), r % 2);
        }
        refused(Starts.ALL, "a 25th", y -> y.race(50, 101, 0), FULL);
        refused(Starts.ALL, "a 25th with leads anew", y -> y.race(399, 101, 1), FULL);
        refused(Starts.ALL, "a 25th that is BAD", y -> y.race(400, 101, 0), BAD);
        within(Starts.SOME, "race(9, 101, v)", 0, 1, BAD, (y, v) -> y.race(9, 101, v));
    }

    private static void daysOfRaces() {
        sentence("a DAY (not ahead of the last one)");
        Start two = () -> withHorses(50, 50);
        within(two, "race(v, 101, 0)", 0, 399, BAD, (x, v) -> x.race(v, 101, 0));
        takenFor(Starts.SOME, "race(v, 101, 0)", BAD, (x, v) -> x.race(v, 101, 0), 9, 10, 99, 109, 199, 209, 309, 399);
        refusedFor(Starts.SOME, "race(v, 101, 1)", BAD, (x, v) -> x.race(v, 101, 1),
                8, 0, 100, 108, 200, 208, 300, 308, 400, 409, -1, -91, Integer.MIN_VALUE, Integer.MAX_VALUE);
        Start atTheEnd = () -> {
            AtThePost x = withHorses(50, 50);
            x.race(99, 101, 0);
            return x;
        };
        takenFor(atTheEnd, "race(v, 101, 0) behind day 99", BAD, (x, v) -> x.race(v, 101, 0), 99, 199, 299, 399);
        refusedFor(atTheEnd, "race(v, 101, 0) behind day 99", BAD, (x, v) -> x.race(v, 101, 0), 0, 98, 198, 298, 398);
        AtThePost x = Starts.SOME.made();
        x.back();
        due("behind the image's last day 7, on day 6", x.race(6, 101, 0), BAD);
        due("behind the image's last day 7, on day 7", x.race(7, 101, 0), 2);
        AtThePost y = withHorses(50, 50);
        y.image();
        y.race(99, 101, 0);
        y.back();
        due("behind an image without a race, on day 0", y.race(0, 101, 0), 0);
    }

    private static void ordersOfRaces() {
        sentence("an order of a FIELD of 2 to 5 HORSES (a 1 and their digits, the winner's first)");
        takenFor(Starts.SOME, "race(9, v, 0)", BAD, (x, v) -> x.race(9, v, 0), 101, 110, 134, 143, 1012, 10123, 101234, 143210);
        refusedFor(Starts.SOME, "race(9, v, 1)", BAD, (x, v) -> x.race(9, v, 1),
                0, 1, 10, 14, 19, 99, 100, 111, 105, 150, 201, 301, 1011, 1100, 2012, 10125, 143211, 1012345, 1432100,
                -101, -1, Integer.MIN_VALUE, Integer.MAX_VALUE);
        refusedFor(Starts.NEW, "race(0, v, 0)", BAD, (x, v) -> x.race(0, v, 0), 1, 10, 101);
        Start ten = () -> withHorses(50, 50, 50, 50, 50, 50, 50, 50, 50, 50);
        takenFor(ten, "race(0, v, 0) of ten", BAD, (x, v) -> x.race(0, v, 0), 109, 190, 198765, 156789, 109876);
        refusedFor(ten, "race(0, v, 0) of ten", BAD, (x, v) -> x.race(0, v, 0), 199, 1987654, 1098765, 198766, 298765, 98765);
        Start one = () -> withHorses(50);
        refusedFor(one, "race(0, v, 0) of one", BAD, (x, v) -> x.race(0, v, 0), 10, 100, 101);
    }

    private static void leadsAnew() {
        sentence("each HORSE in it has its next LEAD by THE RULE, if that is asked for");
        AtThePost x = bearing(withHorses(50, 50, 50), 5, 6, 7);
        x.race(0, 110, 0);
        due("not asked for", x.told(0, 5) * 10000 + x.told(1, 5) * 100 + x.told(2, 5), 50607);
        x.race(0, 110, 1);
        due("asked for", x.told(0, 5) * 10000 + x.told(1, 5) * 100 + x.told(2, 5), 70907);
        sentence("LEADS as they were then");
        due("of the first", x.raceTold(0, 8) * 100 + x.raceTold(0, 9), 605);
        due("of the second", x.raceTold(1, 8) * 100 + x.raceTold(1, 9), 605);
        x.set(1, 2, 60);
        x.race(0, 101, 0);
        due("of the third", x.raceTold(2, 8) * 100 + x.raceTold(2, 9), 760);
        due("of the second still", x.raceTold(1, 8) * 100 + x.raceTold(1, 9), 605);
    }

    private static void racesTold() {
        sentence("Of a RACE: 0 GROUND, 1 DAY");
        for (int when : new int[] {0, 1, 98, 99, 100, 101, 199, 200, 299, 300, 301, 399}) {
            AtThePost x = withHorses(50, 50);
            x.race(when, 101, 0);
            due("ground of " + when, x.raceTold(0, 0), when / 100);
            due("day of " + when, x.raceTold(0, 1), when % 100);
        }
        sentence("Of a RACE: .. -5: none such");
        refusedFor(Starts.NEW, "raceTold(v, 0)", -5, (x, v) -> x.raceTold(v, 0), -1, 0, 1);
        within(Starts.SOME, "raceTold(v, 0)", 0, 2, -5, (x, v) -> x.raceTold(v, 0));
        edges(Starts.ALL, "raceTold(v, 0)", 0, 23, -5, (x, v) -> x.raceTold(v, 0));
        within(Starts.ALL, "raceTold(0, v)", 0, 12, -5, (x, v) -> x.raceTold(0, v));
        sentence("3 .. 7 which came in at that place (less 3), 8 .. 12 its LEAD then");
        int[] orders = {104, 1042, 10421, 104213};
        int[] in = {0, 4, 2, 1, 3};
        for (int size = 2; size <= 5; size++) {
            AtThePost x = bearing(withHorses(50, 50, 50, 50, 50), 20, 21, 22, 23, 24);
            x.race(377, orders[size - 2], 0);
            due("ground", x.raceTold(0, 0), 3);
            due("day", x.raceTold(0, 1), 77);
            due("how many", x.raceTold(0, 2), size);
            for (int place = 0; place < 5; place++) {
                due("at place " + place + " of " + size, x.raceTold(0, 3 + place), place < size ? in[place] : -5);
                due("lead at place " + place + " of " + size, x.raceTold(0, 8 + place), place < size ? 20 + in[place] : -5);
            }
            due("what 13", x.raceTold(0, 13), -5);
            due("what -1", x.raceTold(0, -1), -5);
        }
    }

    private static void wonAndRan() {
        sentence("Of a HORSE: 6 how many RACES it won, 7 in how many it ran");
        AtThePost x = withHorses(50, 50, 50, 50, 50, 50, 50, 50, 50, 50);
        due("none yet", x.told(9, 6) + x.told(9, 7), 0);
        for (int r = 0; r < 24; r++) {
            x.race(r, r < 12 ? 190 : 143219, 0);
        }
        due("won by 9", x.told(9, 6), 12);
        due("run by 9", x.told(9, 7), 24);
        due("won by 0", x.told(0, 6), 0);
        due("run by 0", x.told(0, 7), 12);
        due("won by 4", x.told(4, 6), 12);
        due("run by 5", x.told(5, 7), 0);
    }

    private static void against() {
        sentence("AGAINST: of all RACES on it how many pairs of HORSES, the one behind above the other one");
        AtThePost x = withHorses(50, 51, 52, 53, 54);
        x.race(100, 101234, 0);
        due("all ten pairs", x.against(1, 0), 10);
        x.race(101, 143210, 0);
        due("none more", x.against(1, 9), 10);
        x.race(202, 101, 0);
        due("another ground", x.against(1, 2), 10);
        due("that ground", x.against(2, 2), 1);
        due("no race on it", x.against(3, 2), 0);
        AtThePost y = withHorses(50, 50, 50);
        y.race(0, 1012, 0);
        due("as good is not above", y.against(0, 0), 0);
        y.set(2, 0, 51);
        due("the last one above two", y.against(0, 0), 2);
        sentence("AGAINST: LEAD (as it was) times that POUND by 10 (cut)");
        AtThePost z = bearing(withHorses(60, 52), 9, 0);
        z.race(0, 110, 0);
        bearing(z, 60, 60);
        // 9 times 8 by 10 is 7, 9 times 9 by 10 is 8.
        due("53 to 52", z.against(0, 8), 1);
        due("52 to 52", z.against(0, 9), 0);
        sentence("AGAINST: FORM (on that DAY)");
        AtThePost sly = withHorses(50);
        sly.horse(4, 51, 5020);
        sly.race(6, 101, 0);
        sly.race(7, 101, 0);
        sly.race(8, 101, 0);
        due("on day 7 alone", sly.against(0, 2), 1);
    }

    private static void learnt() {
        sentence("LEARNT: the POUND by which they are fewest; of like ones the least");
        AtThePost beyond = bearing(withHorses(60, 50), 10, 0);
        beyond.race(300, 110, 0);
        due("just by a POUND of 10 none were against it", beyond.learnt(3), 0);
        for (int pound = 0; pound < 10; pound++) {
            AtThePost x = bearing(withHorses(60, 60 - pound), 10, 0);
            x.race(300, 110, 0);
            due("60 less " + pound + " ahead of 60 with 10", x.learnt(3), pound);
            due("without a race", x.learnt(0), 0);
            x.race(300, 101, 0);
            x.race(300, 101, 0);
            due("two the other way, none against it either", x.learnt(3), pound);
        }
        AtThePost y = bearing(withHorses(60, 55, 56), 10, 0, 0);
        y.race(0, 110, 0);
        y.race(0, 102, 0);
        due("above 4 the one is against it, below 5 the other", y.learnt(0), 0);
        y.race(0, 110, 0);
        due("of 2, 2, 2, 2, 2, 1 the least", y.learnt(0), 5);
    }

    private static void pairs() {
        sentence("PAIR: 0 RACES, 1 ahead, 2 EXPECTED. BAD: HORSES (alike, too), what");
        within(Starts.SOME, "pair(1, 2, v)", 0, 2, BAD, (x, v) -> x.pair(1, 2, v));
        refusedFor(Starts.SOME, "pair(v, v, 0)", BAD, (x, v) -> x.pair(v, v, 0), 0, 2, 4, 5, -1);
        AtThePost x = bearing(withHorses(60, 52, 50, 50, 50, 50, 50, 50, 50, 50), 9, 0);
        due("they never met", x.pair(0, 1, 0) + x.pair(0, 1, 1) + x.pair(0, 1, 2), 0);
        x.pound(0, 9);
        for (int r = 0; r < 24; r++) {
            x.race(0, r < 8 ? 101 : r < 16 ? 110 : 102, 0);
        }
        due("both ran", x.pair(0, 1, 0), 16);
        due("0 ahead of 1", x.pair(0, 1, 1), 8);
        due("1 ahead of 0", x.pair(1, 0, 1), 8);
        due("0 ahead of 2", x.pair(0, 2, 1), 8);
        due("2 never ahead of 0", x.pair(2, 0, 1), 0);
        due("9 never ran", x.pair(9, 0, 0), 0);
        sentence("EXPECTED: the one has FORM less LEAD (as it was) times POUND by 10 (cut) above the other one's");
        due("52 to 52", x.pair(0, 1, 2), 0);
        due("52 to 52, turned about", x.pair(1, 0, 2), 0);
        x.pound(0, 8);
        due("53 to 52", x.pair(0, 1, 2), 16);
        due("53 to 52, turned about", x.pair(1, 0, 2), 0);
        x.set(0, 2, 60);
        due("leads as they were", x.pair(0, 1, 2), 16);
    }

    private static void holdingBounds() {
        sentence("when: 100 times GROUND, and the last DAY, 0 .. 5");
        for (int ground = 0; ground < 4; ground++) {
            int first = 100 * ground;
            takenFor(Starts.SOME, "holding(3, v, 0, 9, 1)", NO, (x, v) -> x.holding(3, v, 0, 9, 1), first, first + 5);
            refusedFor(Starts.SOME, "holding(3, v, 0, 9, 1)", NO, (x, v) -> x.holding(3, v, 0, 9, 1), first + 6, first + 99);
        }
        refusedFor(Starts.SOME, "holding(3, v, 0, 9, 1)", NO, (x, v) -> x.holding(3, v, 0, 9, 1),
                -1, -100, 400, 405, 500, Integer.MIN_VALUE, Integer.MAX_VALUE);
        sentence("of the last one told (0 .. 999)");
        within(Starts.SOME, "holding(3, 5, 0, v, 0)", 0, 999, NO, (x, v) -> x.holding(3, 5, 0, v, 0));
        sentence("BEST (what 0), what it comes to (1)");
        within(Starts.SOME, "holding(3, 5, 0, 9, v)", 0, 1, NO, (x, v) -> x.holding(3, 5, 0, 9, v));
        changesNothing(Starts.SOME, "holding(31, 305, 0, 9, 1)", x -> x.holding(31, 305, 0, 9, 1));
        AtThePost x = withHorses(50);
        for (int last = 0; last <= 5; last++) {
            due("alone up to day " + last + " with 999", x.holding(1, last, 0, 999, 1), 10 * last + 999);
            due("let on all up to day " + last, x.holding(1, last, 0, 999, 0), (2 << last) - 1);
            due("alone up to day " + last + " with 0", x.holding(1, 300 + last, 0, 0, 1), 10 * last);
        }
    }

    /** BEST and what it comes to. */
    private static void held(AtThePost x, int field, int last, int prize, int best, int comesTo) {
        due("holding(" + field + ", " + last + ", 0, " + prize + ", 0)", x.holding(field, last, 0, prize, 0), best);
        due("holding(" + field + ", " + last + ", 0, " + prize + ", 1)", x.holding(field, last, 0, prize, 1), comesTo);
    }

    private static void holdingWins() {
        sentence("if let, it wins, if its FORM less LEAD (times POUND by 10, cut) is above that of all others");
        held(withHorses(50, 50), 3, 0, 999, 1, 0);
        held(withHorses(51, 50), 3, 0, 999, 1, 999);
        held(withHorses(51, 50, 50, 50, 51), 31, 0, 999, 1, 0);
        held(withHorses(51, 50, 50, 50, 50, 99), 31, 0, 999, 1, 999);
        held(bearing(withHorses(51, 50), 4), 3, 0, 7, 1, 7);
        held(bearing(withHorses(51, 50), 5), 3, 0, 7, 1, 0);
        held(bearing(withHorses(50, 50), 0, 4), 3, 0, 7, 1, 0);
        held(bearing(withHorses(50, 50), 0, 5), 3, 0, 7, 1, 7);
        sentence("above that of all others, on a GROUND");
        AtThePost ten = withHorses(50, 50, 50, 50, 50, 50, 50, 50, 50, 50);
        for (int h = 0; h < 10; h++) {
            int next = (h + 1) % 10;
            ten.set(h, 0, 51);
            due("of " + h + ", ahead of " + next, ten.holding(1 << h | 1 << next, 0, h, 7, 1), 7);
            due("of " + next + ", behind " + h, ten.holding(1 << h | 1 << next, 0, next, 7, 1), 0);
            ten.set(h, 0, 50);
        }
        AtThePost picky = withHorses(50);
        picky.horse(2, 51, 5012);
        picky.pound(2, 0);
        for (int ground = 0; ground < 4; ground++) {
            for (int last = 0; last <= 5; last++) {
                int comesTo = ground == 2 ? 10 * last + 7 : 0;
                due("on ground " + ground + " up to " + last, picky.holding(3, 100 * ground + last, 1, 7, 1), comesTo);
            }
        }
        sentence("on DAYS 0, 1, .. up to a last one");
        AtThePost sly = new AtThePost();
        sly.horse(4, 51, 5200);
        sly.horse(0, 50, 5000);
        held(sly, 3, 0, 100, 1, 100);
        held(sly, 3, 5, 100, 63, 10);
        sentence("PRIZE of each DAY but the last 10");
        AtThePost x = withHorses(99, 0);
        held(x, 3, 3, 0, 15, 30);
        held(x, 3, 3, 11, 15, 41);
    }

    private static void holdingLeads() {
        sentence("its LEAD is 4 more if it won");
        AtThePost x = withHorses(54, 50);
        x.pound(0, 9);
        // With 4 it is 51 to 50, with 5 it would be 50.
        held(x, 3, 1, 100, 3, 110);
        x.set(0, 0, 53);
        // With 4 it is 50 to 50, with 3 it would be 51: held back on day 0 it wins on day 1.
        held(x, 3, 1, 100, 2, 98);
        sentence("2 less if it didn't");
        AtThePost y = bearing(withHorses(58, 50), 10);
        y.pound(0, 9);
        // 49 on day 0; with 8 it is 51 to 50, with 9 it would be 50.
        held(y, 3, 1, 100, 3, 100);
        y.set(0, 0, 57);
        // With 8 it is 50 to 50, with 7 it would be 51.
        held(y, 3, 1, 100, 3, 0);
        sentence("behind each DAY, let or held back");
        // It wins with 4 and less; a win makes it 8. Held back it pays its LEAD: 4, then 2.
        AtThePost z = ruledBy(bearing(withHorses(51, 50), 4), "next 0;hold lead;say 0;");
        held(z, 3, 1, 999, 2, 995);
        held(z, 3, 2, 999, 4, 993);
        held(z, 3, 3, 999, 15, 1009);
        sentence("0 .. 60, else the bound");
        AtThePost most = bearing(withHorses(99, 44), 58);
        most.pound(0, 9);
        // 47, then by 60 45 to 44; by 61 or 62 it would be 44.
        held(most, 3, 1, 100, 3, 110);
        held(most, 3, 2, 100, 7, 120);
        // 46, then by 60 44 to 44; by 59 it would be 45.
        most.set(0, 0, 98);
        held(most, 3, 1, 100, 2, 98);
        // 45, by 60 43, by 58 45 again; by 61 it would come to 59, which makes it 44.
        most.set(0, 0, 97);
        held(most, 3, 2, 100, 7, 110);
        AtThePost atMost = bearing(withHorses(99, 44), 60);
        atMost.pound(0, 9);
        held(atMost, 3, 5, 100, 63, 150);
        AtThePost least = bearing(withHorses(50, 50), 1);
        least.pound(0, 9);
        held(least, 3, 5, 999, 63, 0);
        // It wins with 1 and less; held back with 1, then with 0 it pays 6, then 5.
        AtThePost paid = ruledBy(bearing(withHorses(51, 50), 1), "next 0;hold lead+5;say 0;");
        paid.pound(0, 9);
        held(paid, 3, 2, 999, 4, 988);
        sentence("for this one alone");
        // The other one is 50 on each day; had it 2 less, it would be 51.
        AtThePost other = bearing(withHorses(51, 59), 0, 10);
        other.pound(0, 9);
        held(other, 3, 1, 100, 2, 98);
    }

    private static void holdingPaid() {
        sentence("held back it never wins, and hold (as of its LEAD then) is paid");
        AtThePost x = withHorses(51, 50);
        x.pound(0, 9);
        // An early win is worth 10 and holding back costs 2: by a last prize of 12 both come to 10.
        held(x, 3, 1, 13, 2, 11);
        held(x, 3, 1, 12, 2, 10);
        held(x, 3, 1, 11, 3, 10);
        AtThePost dear = ruledBy(withHorses(51, 50), "next 0;hold 9999;say 0;");
        dear.pound(0, 9);
        held(dear, 3, 1, 999, 3, 10);
    }

    private static void holdingAlike() {
        sentence("come to most; of like ones the least as bits");
        AtThePost x = ruledBy(bearing(withHorses(51, 50), 4), "next 0;hold 0;say 0;");
        held(x, 3, 0, 0, 0, 0);
        held(x, 3, 1, 10, 1, 10);
        held(x, 3, 1, 9, 1, 10);
        held(x, 3, 1, 11, 2, 11);
        held(x, 1, 1, 0, 1, 10);
        held(x, 1, 5, 0, 31, 50);
        AtThePost lost = ruledBy(withHorses(40, 50), "next 0;hold 0;say 0;");
        held(lost, 3, 5, 999, 0, 0);
    }

    private static void yards() {
        sentence("YARDS: what its LEAD is worth (LEAD times POUND by 10, cut) more than the least of these, times 3");
        AtThePost x = bearing(withHorses(50, 50, 50, 50, 50, 50, 50, 50, 50, 50), 60, 0, 1, 2, 9, 0, 0, 0, 11, 60);
        x.pound(0, 9);
        x.pound(1, 0);
        due("54 to 0", x.yards(3, 0, 0), 162);
        due("the least", x.yards(3, 0, 1), 0);
        due("0 to 0", x.yards(6, 0, 2), 0);
        due("1 to 0", x.yards(14, 0, 3), 3);
        due("8 to 0 of five", x.yards(31, 0, 4), 24);
        due("8 to 1", x.yards(24, 0, 4), 21);
        due("one alone", x.yards(512, 0, 9), 0);
        x.set(0, 2, 1);
        x.set(1, 2, 60);
        due("54 to 0 of the first", x.yards(3, 0, 1), 162);
        due("the first", x.yards(3, 0, 0), 0);
        x.set(0, 2, 60);
        x.set(1, 2, 0);
        due("54 to 9", x.yards(768, 0, 9), 135);
        due("9 to 54", x.yards(768, 0, 8), 0);
        due("a POUND of 0", x.yards(3, 1, 0), 0);
        due("a POUND of 2", x.yards(3, 2, 0), 36);
        changesNothing(Starts.SOME, "yards(31, 2, 1)", y -> y.yards(31, 2, 1));
    }

    private static void seasonBounds() {
        sentence("SEASON of n RACES (1 .. 12): when: 100 times GROUND, and n");
        for (int ground = 0; ground < 4; ground++) {
            int none = 100 * ground;
            edges(Starts.SOME, "season(3, v, 5, 0, 0)", none + 1, none + 12, BAD, (x, v) -> x.season(3, v, 5, 0, 0));
            refused(Starts.SOME, "season(3, " + (none + 99) + ", 5, 0, 0)", x -> x.season(3, none + 99, 5, 0, 0), BAD);
        }
        refusedFor(Starts.SOME, "season(3, v, 5, 0, 0)", BAD, (x, v) -> x.season(3, v, 5, 0, 0),
                -1, -88, -99, 400, 401, 412, Integer.MIN_VALUE, Integer.MAX_VALUE);
        sentence("a SEED (0 .. 99999)");
        within(Starts.SOME, "season(3, 5, v, 0, 0)", 0, 99999, BAD, (x, v) -> x.season(3, 5, v, 0, 0));
        sentence("how often a HORSE won (what 0), its LEAD (1)");
        within(Starts.SOME, "season(3, 5, 5, 0, v)", 0, 1, BAD, (x, v) -> x.season(3, 5, 5, 0, v));
        sentence("SEASON: nothing changes");
        changesNothing(Starts.SOME, "season(31, 312, 5, 1, 0)", x -> x.season(31, 312, 5, 1, 0));
        changesNothing(Starts.SOME, "season(31, 312, 5, 1, 1)", x -> x.season(31, 312, 5, 1, 1));
        AtThePost x = withHorses(50);
        for (int n = 1; n <= 12; n++) {
            due("alone it wins all " + n, x.season(1, n, 99999, 0, 0), n);
        }
    }

    /** How often each of five that are alike, and bear nothing, wins twelve races: worked out beside the class. */
    private static void seasonLots() {
        sentence("LOTS: (SEED and 1) times 48271 modulo 2147483647, .. modulo (twice SPREAD, and 1 more), less SPREAD");
        int[] seeds = {0, 1, 99998, 99999};
        int[][] wins = {
            {12, 0, 0, 0, 0}, {12, 0, 0, 0, 0}, {12, 0, 0, 0, 0}, {12, 0, 0, 0, 0},
            {3, 6, 1, 1, 1}, {7, 1, 1, 2, 1}, {2, 6, 1, 2, 1}, {5, 4, 1, 1, 1},
            {7, 2, 0, 3, 0}, {6, 3, 0, 2, 1}, {2, 1, 4, 5, 0}, {7, 4, 0, 0, 1},
            {3, 2, 3, 3, 1}, {4, 3, 2, 2, 1}, {2, 3, 0, 3, 4}, {3, 1, 5, 2, 1},
        };
        int[] winsOfTwo = {12, 12, 12, 12, 8, 9, 8, 12, 5, 9, 8, 6, 8, 12, 5, 7};
        for (int i = 0; i < wins.length; i++) {
            AtThePost x = ruledBy(withHorses(50, 50, 50, 50, 50), "next 0;hold 0;say 0;");
            x.pound(4, i / 4);
            int seed = seeds[i % 4];
            for (int h = 0; h < 5; h++) {
                due("wins of " + h + " by " + seed, x.season(31, 12, seed, h, 0), wins[i][h]);
            }
            due("wins of 1 of 1 and 4 by " + seed, x.season(18, 212, seed, 1, 0), winsOfTwo[i]);
            due("wins of 4 of 1 and 4 by " + seed, x.season(18, 212, seed, 4, 0), 12 - winsOfTwo[i]);
        }
    }

    private static void seasonPlaces() {
        sentence("DAY is 0, 1, ..");
        AtThePost sly = ruledBy(withHorses(50), "next 0;hold 0;say 0;");
        sly.horse(4, 60, 5200);
        sly.pound(4, 0);
        int[] won = {1, 1, 1, 1, 1, 1, 1, 2, 2, 2, 2, 2};
        for (int n = 1; n <= 12; n++) {
            due("the sly one's by " + n, sly.season(3, n, 0, 1, 0), won[n - 1]);
        }
        sentence("SEASON of n RACES on a GROUND");
        AtThePost picky = ruledBy(steady(withHorses(50)), "next ground+1;hold 0;say 0;");
        picky.horse(2, 60, 5202);
        for (int ground = 0; ground < 4; ground++) {
            for (int n = 1; n <= 12; n++) {
                int when = 100 * ground + n;
                due("season of " + when, picky.season(3, when, 0, 1, 0), ground == 2 ? n : 0);
                due("lead by season of " + when, picky.season(3, when, 0, 0, 1), ground + 1);
            }
        }
        sentence("the best runs win (of like ones the least); place by runs, of like ones the lesser first");
        AtThePost x = steady(withHorses(50, 50, 50, 50, 50, 50, 50, 50, 50, 50));
        ruledBy(x, "next place*10+won;hold 0;say 0;");
        for (int h = 5; h < 10; h++) {
            due("lead of " + h + " of like ones", x.season(992, 1, 0, h, 1), (h - 5) * 10 + (h == 5 ? 1 : 0));
        }
        x.set(9, 0, 51);
        x.set(5, 0, 49);
        int[] places = {4, 1, 2, 3, 0};
        for (int h = 5; h < 10; h++) {
            due("lead of " + h + " by runs", x.season(992, 1, 0, h, 1), places[h - 5] * 10 + (h == 9 ? 1 : 0));
            due("wins of " + h + " by runs", x.season(992, 1, 0, h, 0), h == 9 ? 1 : 0);
        }
        sentence("won: with those of this SEASON, this RACE, too");
        AtThePost y = ruledBy(steady(withHorses(50, 49)), "next won+30*place;hold 0;say 0;");
        y.pound(0, 0);
        y.race(0, 101, 0);
        due("one, and three", y.season(3, 3, 0, 0, 1), 4);
        due("how often it won", y.season(3, 3, 0, 0, 0), 3);
        due("none", y.season(3, 3, 0, 1, 1), 30);
        sentence("then each has its next LEAD by THE RULE (ground of the RACE)");
        AtThePost z = ruledBy(steady(withHorses(50, 50)), "next lead+ground+1;hold 0;say 0;");
        due("twelve times 4", z.season(3, 312, 0, 0, 1), 48);
        due("twelve times 1", z.season(3, 12, 0, 1, 1), 12);
        bearing(z, 30);
        due("by the bound", z.season(3, 312, 0, 0, 1), 60);
    }

    private static void seasonOutside() {
        sentence("SEASON of a FIELD: a HORSE that isn't in it won 0 times, its LEAD stays");
        AtThePost x = bearing(withHorses(50, 50, 50), 5, 6, 60);
        for (int horse = 0; horse < 3; horse++) {
            due("wins of " + horse, x.season(1, 12, 0, horse, 0), horse == 0 ? 12 : 0);
        }
        due("lead of 1", x.season(1, 12, 0, 1, 1), 6);
        due("lead of 2", x.season(1, 12, 0, 2, 1), 60);
        due("wins of 2 behind a season of all", x.season(7, 12, 0, 2, 0) * 0 + x.season(3, 12, 0, 2, 0), 0);
    }

    private static void image() {
        sentence("AN IMAGE is kept: how many RACES");
        due("of a new one", new AtThePost().image(), 0);
        due("of all", Starts.ALL.made().image(), 24);
        AtThePost x = withHorses(50, 50);
        for (int r = 0; r < 24; r++) {
            due("image behind " + r, x.image(), r);
            x.race(r, 101, 1);
        }
        due("the last one is kept", x.back(), 23);
        changesNothing(Starts.NEW, "count(0) behind image()", y -> y.count(0));
    }

    private static void back() {
        sentence("STATE: there is none");
        refused(Starts.NEW, "back()", x -> x.back(), STATE);
        Start horses = () -> withHorses(50, 50);
        refused(horses, "back()", x -> x.back(), STATE);
        sentence("All that it keeps is as in THE IMAGE");
        changesNothing(Starts.ALL, "back() from what is as it was", x -> x.back());
        changesNothing(Starts.ALL, "what is kept and back()", Starts::changedAndBack);
        AtThePost x = new AtThePost();
        due("an image of nothing", x.image(), 0);
        x.horse(0, 50, 5000);
        x.horse(0, 60, 5000);
        bearing(x, 1, 2);
        x.race(99, 101, 1);
        x.pound(3, 9);
        x.pound(4, 3);
        due("back to it", x.back(), 0);
        sentence("HORSES that came since stay as they are");
        due("count(0)", x.count(0), 2);
        due("strength", x.told(1, 1), 60);
        due("leads", x.told(0, 5) * 100 + x.told(1, 5), 404);
        due("won, ran", x.told(0, 6) + x.told(0, 7), 0);
        due("spread", x.count(5), 1);
        due("pound", x.pound(3, 2), 2);
        due("count(1)", x.count(1), 0);
        due("raceTold(0, 0)", x.raceTold(0, 0), -5);
        sentence("how many RACES: there is room again");
        AtThePost y = withHorses(50, 50);
        y.image();
        for (int turn = 0; turn < 2; turn++) {
            for (int r = 0; r < 24; r++) {
                due("race " + r, y.race(r, 101, 0), r);
            }
            due("a 25th", y.race(99, 101, 0), FULL);
            due("back()", y.back(), 0);
        }
        due("the first again", y.race(0, 110, 0), 0);
        due("its winner", y.raceTold(0, 3), 1);
    }
}
