// Terms 3 and the promises of the host: bounds of sheets, their items and what is taken from them.
public final class HostBoundsTest extends Checks {
    public static void main(String[] args) {
        missingAtFirst();
        sheetBounds();
        sheetAnew();
        cellBounds();
        cellWraps();
        copyBounds();
        copyOrder();
        copyAsTheyWere();
        horsesBounds();
        horsesOutside();
        horsesLeftOut();
        kindsUnderKinds();
        end();
    }

    private static void missingAtFirst() {
        sentence("SHEETS 0 .. 3 are rows of numbers, or missing (as all are at first)");
        for (int s = 0; s < 4; s++) {
            int sheet = s;
            refused(Starts.NEW, "cell(" + s + ", 0, 0)", x -> x.cell(sheet, 0, 0), NOTHING_THERE);
            refused(Starts.NEW, "copy(" + s + ", ..)", x -> x.copy(sheet, 0, sheet, 0, 0), NOTHING_THERE);
            for (int sort = 0; sort < 3; sort++) {
                int of = sort;
                refused(Starts.NEW, "horses(" + s + ", " + sort + ", ..)", x -> x.horses(sheet, of, 0, 0), NOTHING_THERE);
            }
        }
        within(Starts.ALL, "sheet(v, 2, 1)", 0, 3, BAD, (x, v) -> x.sheet(v, 2, 1));
        within(Starts.ALL, "sheet(v, -1, 0)", 0, 3, BAD, (x, v) -> x.sheet(v, -1, 0));
        within(Starts.ALL, "cell(v, 0, 1)", 0, 3, BAD, (x, v) -> x.cell(v, 0, 1));
        within(Starts.ALL, "copy(v, 0, v, 1, 1)", 0, 3, BAD, (x, v) -> x.copy(v, 0, v, 1, 1));
        within(Starts.ALL, "copy(0, 0, v, 1, 1)", 0, 3, BAD, (x, v) -> x.copy(0, 0, v, 1, 1));
        within(Starts.ALL, "horses(v, 0, 0, 1)", 0, 3, BAD, (x, v) -> x.horses(v, 0, 0, 1));
    }

    private static void sheetBounds() {
        sentence("A SHEET becomes a row of n of a sort: BAD: no such SHEET, sort; n above 40; -14");
        within(Starts.SOME, "sheet(0, v, 1)", -1, 2, BAD, (x, v) -> x.sheet(0, v, 1));
        for (int sort = 0; sort < 3; sort++) {
            int of = sort;
            takenFor(Starts.SOME, "sheet(0, " + sort + ", v)", BAD, (x, v) -> x.sheet(0, of, v), 0, 1, 39, 40);
            takenFor(Starts.SOME, "sheet(0, " + sort + ", v)", SIZE_BELOW_ZERO, (x, v) -> x.sheet(0, of, v), 0);
            refusedFor(Starts.SOME, "sheet(0, " + sort + ", v)", BAD, (x, v) -> x.sheet(0, of, v), 41, 42, 1000, Integer.MAX_VALUE);
            refusedFor(Starts.SOME, "sheet(0, " + sort + ", v)", SIZE_BELOW_ZERO, (x, v) -> x.sheet(0, of, v), -1, -2, Integer.MIN_VALUE);
            refusedFor(Starts.SOME, "sheet(3, " + sort + ", v)", SIZE_BELOW_ZERO, (x, v) -> x.sheet(3, of, v), -1);
            for (int n = 0; n <= 40; n++) {
                AtThePost x = new AtThePost();
                due("sheet(1, " + sort + ", " + n + ")", x.sheet(1, sort, n), 1);
                due("item " + n + " of " + n, x.cell(1, n, 1), OUTSIDE);
                due("item " + (n - 1) + " of " + n, x.cell(1, n - 1, 1), n == 0 ? OUTSIDE : 1);
            }
        }
        sentence("Refusals, the first that the call's words name: no such SHEET, sort ahead of -14");
        refused(Starts.SOME, "sheet(4, 0, -1)", x -> x.sheet(4, 0, -1), BAD);
        refused(Starts.SOME, "sheet(0, 3, -1)", x -> x.sheet(0, 3, -1), BAD);
        refused(Starts.SOME, "sheet(0, -2, -1)", x -> x.sheet(0, -2, -1), BAD);
        sentence("or missing (sort -1: n does not matter): 1");
        for (int n : new int[] {0, 1, 40, 41, -1, Integer.MAX_VALUE, Integer.MIN_VALUE}) {
            AtThePost x = Starts.SOME.made();
            due("sheet(0, -1, " + n + ")", x.sheet(0, -1, n), 1);
            due("it is missing", x.cell(0, 0, 0), NOTHING_THERE);
            due("sheet(0, -1, " + n + ") again", x.sheet(0, -1, n), 1);
            due("the next one is not", x.cell(1, 0, 0), 1);
        }
    }

    /** A row of HORSES of sort 2, then made anew. */
    private static void sheetAnew() {
        sentence("A SHEET becomes a row, all 0");
        AtThePost x = new AtThePost();
        Starts.row(x, 0, 2, 1, 50, 2000);
        due("a horse by it", x.horses(0, 2, 0, 1), 1);
        due("the same size again", x.sheet(0, 2, 3), 1);
        due("none by it", x.horses(0, 2, 0, 1), 0);
        due("only an age is missing", x.cell(0, 2, 3000), 1);
        due("one by it", x.horses(0, 2, 0, 1), 1);
        due("kind and strength are 0", x.told(1, 0) + x.told(1, 1), 0);
        due("smaller", x.sheet(0, 2, 2), 1);
        due("nothing behind it", x.horses(0, 2, 0, 1), OUTSIDE);
        due("another sort", x.sheet(0, 1, 3), 1);
        due("it is of that one", x.horses(0, 2, 0, 1), OTHER_SORT);
        due("and no more of the first", x.horses(0, 1, 0, 1), 0);
    }

    private static void cellBounds() {
        sentence("Item i of a SHEET becomes v: 1. BAD: no such SHEET; -11; -12");
        within(Starts.SOME, "cell(0, v, 7)", 0, 5, OUTSIDE, (x, v) -> x.cell(0, v, 7));
        within(Starts.SOME, "cell(2, v, 7)", 0, 2, OUTSIDE, (x, v) -> x.cell(2, v, 7));
        within(Starts.ALL, "cell(1, v, 7)", 0, 39, OUTSIDE, (x, v) -> x.cell(1, v, 7));
        Start empty = () -> {
            AtThePost x = new AtThePost();
            x.sheet(0, 2, 0);
            return x;
        };
        refusedFor(empty, "cell(0, v, 7) of none", OUTSIDE, (x, v) -> x.cell(0, v, 7), -1, 0, 1);
        sentence("Refusals, the first that the call's words name");
        refusedFor(Starts.SOME, "cell(4, v, 7)", BAD, (x, v) -> x.cell(4, v, 7), -1, 0, 40);
        refusedFor(Starts.SOME, "cell(3, v, 7)", NOTHING_THERE, (x, v) -> x.cell(3, v, 7), -1, 0, 40);
    }

    private static void cellWraps() {
        sentence("of bytes, shorts its lowest 8, 16 bits");
        int[] strengths = {65536 + 50, 50 - 65536, Integer.MIN_VALUE + 50, 0x7fff0000 + 50};
        for (int strength : strengths) {
            AtThePost x = new AtThePost();
            Starts.row(x, 0, 1, 65536, strength, 65536 + 12203);
            due("a horse by shorts of " + strength, x.horses(0, 1, 0, 1), 1);
            due("its kind", x.told(0, 0), 0);
            due("its strength", x.told(0, 1), 50);
            due("its age", x.told(0, 2), 12);
            Starts.row(x, 0, 2, 0, strength, 12203);
            due("none by ints of " + strength, x.horses(0, 2, 0, 1), 0);
        }
        AtThePost x = new AtThePost();
        Starts.row(x, 0, 1, 0, 50, 32768 + 5000);
        due("none by a short above 32767", x.horses(0, 1, 0, 1), 0);
        Starts.row(x, 0, 1, 0, 50, 65536 - 5000);
        due("none by a short below 0", x.horses(0, 1, 0, 1), 0);
        Starts.row(x, 0, 0, 0, 50, 2000);
        due("none by bytes: 2000 is 208 or -48", x.horses(0, 0, 0, 1), 0);
        Starts.row(x, 0, 2, 0, 50, 65536 + 2000);
        due("an int has all its bits", x.horses(0, 2, 0, 1), 0);
        due("none came", x.count(0), 0);
    }

    private static void copyBounds() {
        sentence("n numbers from item i on come to another one's item j on: n. -12 (also with n below 0)");
        Start rows = () -> {
            AtThePost x = new AtThePost();
            Starts.row(x, 0, 2, 0, 11, 2001, 1, 12, 3002);
            Starts.row(x, 1, 2, 2, 13, 4003, 0);
            Starts.row(x, 2, 2);
            return x;
        };
        takenFor(rows, "copy(0, 0, 1, 0, v)", OUTSIDE, (x, v) -> x.copy(0, 0, 1, 0, v), 0, 1, 4);
        refusedFor(rows, "copy(0, 0, 1, 0, v)", OUTSIDE, (x, v) -> x.copy(0, 0, 1, 0, v), -1, 5, 6, Integer.MIN_VALUE, Integer.MAX_VALUE);
        refusedFor(rows, "copy(1, 0, 0, 0, v)", OUTSIDE, (x, v) -> x.copy(1, 0, 0, 0, v), -1, 5, 6, Integer.MIN_VALUE, Integer.MAX_VALUE);
        within(rows, "copy(0, v, 1, 0, 4)", 0, 2, OUTSIDE, (x, v) -> x.copy(0, v, 1, 0, 4));
        within(rows, "copy(1, 0, 0, v, 4)", 0, 2, OUTSIDE, (x, v) -> x.copy(1, 0, 0, v, 4));
        within(rows, "copy(0, v, 1, 0, 0)", 0, 6, OUTSIDE, (x, v) -> x.copy(0, v, 1, 0, 0));
        within(rows, "copy(0, 0, 1, v, 0)", 0, 4, OUTSIDE, (x, v) -> x.copy(0, 0, 1, v, 0));
        within(rows, "copy(0, v, 1, 3, 1)", 0, 5, OUTSIDE, (x, v) -> x.copy(0, v, 1, 3, 1));
        within(rows, "copy(0, 5, 1, v, 1)", 0, 3, OUTSIDE, (x, v) -> x.copy(0, 5, 1, v, 1));
        edges(rows, "copy(2, v, 2, 0, 0)", 0, 0, OUTSIDE, (x, v) -> x.copy(2, v, 2, 0, 0));
        refusedFor(rows, "copy(2, 0, 2, 0, v)", OUTSIDE, (x, v) -> x.copy(2, 0, 2, 0, v), -1, 1);
        refused(rows, "sums that wrap", x -> x.copy(0, Integer.MAX_VALUE, 1, Integer.MAX_VALUE, Integer.MAX_VALUE), OUTSIDE);
        refused(rows, "a sum that wraps", x -> x.copy(0, 2, 1, 0, Integer.MAX_VALUE), OUTSIDE);
        refused(rows, "below 0 on both sides", x -> x.copy(0, -1, 1, -1, 1), OUTSIDE);
        changesNothing(rows, "copy of none", x -> x.copy(0, 6, 1, 4, 0));
        changesNothing(rows, "copy onto itself", x -> x.copy(0, 0, 0, 0, 6));
        due("all of it", rows.made().copy(0, 0, 0, 0, 6), 6);
    }

    private static void copyOrder() {
        sentence("copy: BAD: no such SHEET; -11; -13: they are of unlike sorts; -12");
        int[] none = {-1, 4, Integer.MIN_VALUE, Integer.MAX_VALUE};
        refusedFor(Starts.SOME, "copy(v, 0, 3, 0, 1)", BAD, (x, v) -> x.copy(v, 0, 3, 0, 1), none);
        refusedFor(Starts.SOME, "copy(3, 0, v, 0, 1)", BAD, (x, v) -> x.copy(3, 0, v, 0, 1), none);
        refusedFor(Starts.SOME, "copy(3, 0, v, 0, -1)", NOTHING_THERE, (x, v) -> x.copy(3, 0, v, 0, -1), 0, 1, 2, 3);
        refusedFor(Starts.SOME, "copy(v, 0, 3, 0, -1)", NOTHING_THERE, (x, v) -> x.copy(v, 0, 3, 0, -1), 0, 1, 2);
        int[][] unlike = {{0, 1}, {0, 2}, {1, 0}, {1, 2}, {2, 0}, {2, 1}};
        for (int[] two : unlike) {
            for (int n : new int[] {-1, 0, 1, 41}) {
                refused(Starts.SOME, "copy(" + two[0] + ", 0, " + two[1] + ", 0, " + n + ")",
                        x -> x.copy(two[0], 0, two[1], 0, n), OTHER_SORT);
            }
        }
    }

    private static void copyAsTheyWere() {
        sentence("(as they were)");
        // Of a row 0 1 .. 8 three are put over others; what stands there then is told by copies to a HORSE's strength.
        int[][] cases = {{0, 1, 8}, {1, 0, 8}, {0, 2, 7}, {2, 0, 7}, {3, 4, 5}, {4, 3, 5}, {0, 8, 1}, {8, 0, 1}};
        for (int[] one : cases) {
            int[] want = {0, 1, 2, 3, 4, 5, 6, 7, 8};
            System.arraycopy(want.clone(), one[0], want, one[1], one[2]);
            AtThePost x = new AtThePost();
            Starts.row(x, 0, 1, 0, 1, 2, 3, 4, 5, 6, 7, 8);
            Starts.row(x, 1, 1, 0, 0, 2000);
            due("copy(0, " + one[0] + ", 0, " + one[1] + ", " + one[2] + ")", x.copy(0, one[0], 0, one[1], one[2]), one[2]);
            for (int i = 0; i < 9; i++) {
                x.copy(0, i, 1, 1, 1);
                due("a horse by item " + i, x.horses(1, 1, 0, 1), 1);
                due("item " + i, x.told(i, 1), want[i]);
            }
        }
    }

    /** Ten HORSES of strengths 0 to 9 in 30 items, and three items more. */
    private static AtThePost tenInARow() {
        AtThePost x = new AtThePost();
        x.sheet(0, 2, 33);
        for (int h = 0; h < 11; h++) {
            x.cell(0, 3 * h, h % 6);
            x.cell(0, 3 * h + 1, h);
            x.cell(0, 3 * h + 2, 2000);
        }
        return x;
    }

    private static void horsesBounds() {
        sentence("n of them (0 .. 10): how many came. BAD: no such SHEET, sort, n; -13; -11; -12");
        Start row = HostBoundsTest::tenInARow;
        within(row, "horses(0, 2, 0, v)", 0, 10, BAD, (x, v) -> x.horses(0, 2, 0, v));
        within(row, "horses(0, v, 0, 0)", 0, 2, BAD, (x, v) -> x.horses(0, v, 0, 0));
        refusedFor(row, "horses(0, v, 0, 1)", OTHER_SORT, (x, v) -> x.horses(0, v, 0, 1), 0, 1);
        refusedFor(row, "horses(0, v, 99, 1)", OTHER_SORT, (x, v) -> x.horses(0, v, 99, 1), 0, 1);
        refusedFor(row, "horses(0, v, 0, 1)", BAD, (x, v) -> x.horses(0, v, 0, 1), -1, 3);
        refusedFor(row, "horses(1, v, 0, 1)", BAD, (x, v) -> x.horses(1, v, 0, 1), -1, 3);
        refusedFor(row, "horses(1, v, 99, 1)", NOTHING_THERE, (x, v) -> x.horses(1, v, 99, 1), 0, 1, 2);
        refusedFor(row, "horses(1, 0, 0, v)", BAD, (x, v) -> x.horses(1, 0, 0, v), -1, 11);
        refusedFor(row, "horses(0, 0, 0, v)", BAD, (x, v) -> x.horses(0, 0, 0, v), -1, 11);
        for (int n = 0; n <= 10; n++) {
            AtThePost x = tenInARow();
            due("horses(0, 2, 0, " + n + ")", x.horses(0, 2, 0, n), n);
            due("count(0)", x.count(0), n);
            for (int h = 0; h < n; h++) {
                due("strength of " + h, x.told(h, 1), h);
            }
        }
        changesNothing(row, "none of them", x -> x.horses(0, 2, 0, 0));
        due("none of them from the end on", tenInARow().horses(0, 2, 33, 0), 0);
    }

    private static void horsesOutside() {
        sentence("-12: what stood ahead came");
        Start row = HostBoundsTest::tenInARow;
        // From 4 on no three items are a HORSE, so none stands ahead of the place outside.
        edges(row, "horses(0, 2, v, 10)", 0, 3, OUTSIDE, (x, v) -> x.horses(0, 2, v, 10));
        within(row, "horses(0, 2, v, 1)", 0, 30, OUTSIDE, (x, v) -> x.horses(0, 2, v, 1));
        refusedFor(row, "horses(0, 2, v, 10)", OUTSIDE, (x, v) -> x.horses(0, 2, v, 10),
                -1, -3, 31, 32, 33, 34, Integer.MIN_VALUE, Integer.MAX_VALUE, Integer.MAX_VALUE - 2);
        for (int size = 0; size <= 9; size++) {
            AtThePost x = new AtThePost();
            x.sheet(1, 1, size);
            for (int i = 0; i < size; i++) {
                x.cell(1, i, i % 3 == 2 ? 2000 : i % 3 == 1 ? i : 0);
            }
            due("four by " + size + " items", x.horses(1, 1, 0, 4), OUTSIDE);
            due("how many stood ahead", x.count(0), size / 3);
            due("three by " + size + " items", x.horses(1, 1, 0, 3), size == 9 ? 3 : OUTSIDE);
            due("as many again", x.count(0), 2 * (size / 3));
        }
    }

    private static void horsesLeftOut() {
        sentence("as of horse(): how many came (others are left out)");
        AtThePost x = new AtThePost();
        Starts.row(x, 0, 2, 6, 50, 2000, 0, 100, 2000, 0, 50, 1999, 0, 50, 13000, 0, 50, 2210, 0, 50, 2004, -1, 50, 2000, 5, 99, 12203);
        due("seven are BAD", x.horses(0, 2, 0, 8), 1);
        due("count(0)", x.count(0), 1);
        due("the last one's strength", x.told(0, 1), 99);
        AtThePost y = withHorses(50, 50, 50, 50, 50, 50, 50, 50);
        Starts.row(y, 0, 2, 0, 60, 2000, 0, 61, 2000, 0, 62, 2000);
        due("two have room", y.horses(0, 2, 0, 3), 2);
        due("count(0)", y.count(0), 10);
        due("the last one's strength", y.told(9, 1), 61);
        due("none has room", y.horses(0, 2, 0, 3), 0);
        due("none has room, then a place outside", y.horses(0, 2, 0, 4), OUTSIDE);
        changesNothing(Starts.ALL, "horses(2, 2, 0, 10)", z -> z.horses(2, 2, 0, 10));
    }

    private static void kindsUnderKinds() {
        sentence("A HORSE taken for one of KIND k (0 .. 5), or one under that one: its NUMBER. BAD: k; -11; -13");
        within(Starts.SOME, "taken(0, v)", 0, 5, BAD, (x, v) -> x.taken(0, v));
        within(Starts.NEW, "taken(0, v)", 0, 5, BAD, (x, v) -> x.taken(0, v));
        refusedFor(Starts.SOME, "taken(5, v)", NOTHING_THERE, (x, v) -> x.taken(5, v), 0, 5);
        refusedFor(Starts.SOME, "taken(-1, v)", BAD, (x, v) -> x.taken(-1, v), -1, 6);
        String[] above = {"0", "01", "02", "03", "014", "035"};
        for (int kind = 0; kind < 6; kind++) {
            for (int number : new int[] {0, 20}) {
                AtThePost x = new AtThePost();
                x.horse(kind, 50, 2000 + 10 * number);
                for (int k = 0; k < 6; k++) {
                    boolean isOne = above[kind].indexOf('0' + k) >= 0;
                    due("one of kind " + kind + " taken for " + k, x.taken(0, k), isOne ? number : OTHER_SORT);
                }
            }
        }
    }
}
