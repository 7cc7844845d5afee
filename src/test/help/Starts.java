// States to try calls in: nothing there yet, some of all, and all that has room.
final class Starts {
    static final Checks.Start NEW = AtThePost::new, SOME = Starts::some, ALL = Starts::all;

    private Starts() {
    }

    /** Five horses of five kinds, three races up to day 9, an image ahead of the last, a text on the tape. */
    private static AtThePost some() {
        AtThePost x = new AtThePost();
        x.horse(0, 60, 5000);
        x.horse(1, 58, 4031);
        x.horse(3, 55, 3042);
        x.horse(4, 57, 7020);
        x.horse(2, 56, 6013);
        Checks.ruledBy(x, "next lead+won*3-place;hold age;say place+ground*10+won;");
        Checks.bearing(x, 7, 11);
        x.race(105, 1012, 1);
        x.race(107, 1340, 0);
        x.image();
        x.set(1, 0, 59);
        x.set(2, 1, 4);
        x.pound(2, 5);
        x.pound(4, 2);
        x.force(0);
        x.race(309, 14321, 1);
        Checks.fed(x, "next 4;hold 6;say 8;");
        row(x, 0, 2, 0, 11, 2001, 1, 12, 3002);
        row(x, 1, 1, 2, 13, 4003);
        row(x, 2, 0, 1, 2, 3);
        return x;
    }

    /** Ten horses, 24 races on day 50, six texts, 160 bytes on the tape, four rows of 40. */
    private static AtThePost all() {
        AtThePost x = new AtThePost();
        for (int h = 0; h < 10; h++) {
            x.horse(h % 6, 50 + h % 4, 4000 + 10 * h + h % 4);
        }
        for (int t = 1; t < 6; t++) {
            Checks.ruledBy(x, "next lead+" + t + ";hold " + t + ";say " + t + ";");
        }
        for (int r = 0; r < 24; r++) {
            x.race(r % 4 * 100 + 50, r % 2 == 0 ? 198765 : 1109, 0);
        }
        for (int i = 0; i < 20; i++) {
            x.feed(8, 0L);
        }
        for (int s = 0; s < 4; s++) {
            x.sheet(s, s % 3, 40);
        }
        x.image();
        return x;
    }

    /** Of the full one all that an image keeps is made another, then it goes back: how many races. */
    static long changedAndBack(AtThePost x) {
        for (int h = 0; h < 10; h++) {
            x.set(h, 0, 10 + h);
            x.set(h, 1, 12);
            x.set(h, 2, 30 + h);
        }
        for (int ground = 0; ground < 4; ground++) {
            x.pound(ground, 5 + ground);
        }
        x.pound(4, 3);
        x.force(2);
        return x.back();
    }

    static void row(AtThePost x, int sheet, int sort, int... items) {
        x.sheet(sheet, sort, items.length);
        for (int i = 0; i < items.length; i++) {
            x.cell(sheet, i, items[i]);
        }
    }
}
