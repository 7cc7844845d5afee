// For each promise of the document its plain answers, its edges and its refusals, worked out by hand.
public final class PromiseTest extends Checks {
    public static void main(String[] args) {
        sentence("promise 1"); newObject();
        sentence("promise 2"); horse();
        sentence("promise 3"); set();
        sentence("promise 4"); pound();
        sentence("promise 5"); form();
        sentence("promise 6"); told();
        sentence("promise 7"); wins();
        sentence("promise 8"); comes();
        sentence("promise 9"); worse();
        sentence("promise 10"); even();
        sentence("promise 11"); near();
        sentence("promise 12"); lay();
        sentence("promise 13"); feed();
        sentence("promise 14"); text(); values();
        sentence("promise 15"); force();
        sentence("promise 16"); race();
        sentence("promise 17"); raceTold();
        sentence("promise 18"); against();
        sentence("promise 19"); learnt();
        sentence("promise 20"); pair();
        sentence("promise 21"); holding();
        sentence("promise 22"); yards();
        sentence("promise 23"); season();
        sentence("promise 24"); image();
        sentence("promise 25"); back();
        sentence("promise 26"); count();
        sentence("promise 27"); sheet();
        sentence("promise 28"); cell();
        sentence("promise 29"); copy();
        sentence("promise 30"); horses();
        sentence("promise 31"); taken();
        end();
    }

    private static void newObject() {
        AtThePost x = new AtThePost();
        due("count(0)", x.count(0), 0);
        due("count(1)", x.count(1), 0);
        due("count(2)", x.count(2), 1);
        due("count(3)", x.count(3), 0);
        due("count(4)", x.count(4), 0);
        due("count(5)", x.count(5), 1);
        due("count(6)", x.count(6), 0);
        due("told(0, 0)", x.told(0, 0), -1000000);
        due("form(0, 0, 0)", x.form(0, 0, 0), NO);
        due("wins(1, 0, 0, 0)", x.wins(1, 0, 0, 0), NO);
        due("raceTold(0, 0)", x.raceTold(0, 0), -5);
        due("back()", x.back(), -3);
        for (int sheet = 0; sheet < 4; sheet++) {
            due("cell of sheet " + sheet, x.cell(sheet, 0, 0), -11);
        }
        for (int ground = 0; ground < 4; ground++) {
            due("pound of ground " + ground, x.pound(ground, 3), 2);
        }
    }

    private static void horse() {
        AtThePost x = new AtThePost();
        due("kind -1", x.horse(-1, 50, 5000), -2);
        due("kind 6", x.horse(6, 50, 5000), -2);
        due("strength -1", x.horse(0, -1, 5000), -2);
        due("strength 100", x.horse(0, 100, 5000), -2);
        due("age 1", x.horse(0, 50, 1999), -2);
        due("age 13", x.horse(0, 50, 13000), -2);
        due("number 21", x.horse(0, 50, 2210), -2);
        due("ground 4", x.horse(0, 50, 2004), -2);
        due("rest below 0", x.horse(0, 50, -5000), -2);
        due("rest the least int", x.horse(0, 50, Integer.MIN_VALUE), -2);
        due("rest the greatest int", x.horse(0, 50, Integer.MAX_VALUE), -2);
        due("count(0)", x.count(0), 0);
        due("the least", x.horse(0, 0, 2000), 0);
        due("the greatest", x.horse(5, 99, 12203), 1);
        due("kind", x.told(1, 0), 5);
        due("strength", x.told(1, 1), 99);
        due("age", x.told(1, 2), 12);
        due("number", x.told(1, 3), 20);
        due("ground", x.told(1, 4), 3);
        due("lead", x.told(1, 5), 0);
        for (int h = 2; h < 10; h++) {
            due("horse " + h, x.horse(h % 6, h, 3000), h);
        }
        due("an eleventh", x.horse(0, 50, 5000), -4);
        due("BAD ahead of FULL", x.horse(6, 50, 5000), -2);
        due("count(0)", x.count(0), 10);
    }

    private static void set() {
        AtThePost x = withHorses(50, 60);
        due("strength", x.set(0, 0, 99), 50);
        due("strength again", x.set(0, 0, 0), 99);
        due("age", x.set(0, 1, 12), 5);
        due("age again", x.set(0, 1, 2), 12);
        due("lead", x.set(0, 2, 60), 0);
        due("lead again", x.set(0, 2, 0), 60);
        due("strength 100", x.set(0, 0, 100), -2);
        due("strength -1", x.set(0, 0, -1), -2);
        due("age 1", x.set(0, 1, 1), -2);
        due("age 13", x.set(0, 1, 13), -2);
        due("lead 61", x.set(0, 2, 61), -2);
        due("lead -1", x.set(0, 2, -1), -2);
        due("what 3", x.set(0, 3, 5), -2);
        due("what -1", x.set(0, -1, 5), -2);
        due("horse 2", x.set(2, 0, 5), -2);
        due("horse -1", x.set(-1, 0, 5), -2);
        due("strength stays", x.told(0, 1), 0);
        due("age stays", x.told(0, 2), 2);
        due("lead stays", x.told(0, 5), 0);
        due("the other one stays", x.told(1, 1), 60);
    }

    private static void pound() {
        AtThePost x = new AtThePost();
        due("ground 0", x.pound(0, 9), 2);
        due("ground 0 again", x.pound(0, 0), 9);
        due("ground 3", x.pound(3, 5), 2);
        due("ground 1 by itself", x.pound(1, 1), 2);
        due("spread", x.pound(4, 3), 1);
        due("spread again", x.pound(4, 0), 3);
        due("a pound of 10", x.pound(0, 10), -2);
        due("a pound of -1", x.pound(0, -1), -2);
        due("a spread of 4", x.pound(4, 4), -2);
        due("a spread of -1", x.pound(4, -1), -2);
        due("ground 5", x.pound(5, 1), -2);
        due("ground -1", x.pound(-1, 1), -2);
        due("ground 0 stays", x.pound(0, 0), 0);
        due("spread stays", x.count(5), 0);
    }

    private static void form() {
        AtThePost x = new AtThePost();
        x.horse(0, 50, 4073);
        x.horse(1, 5, 4200);
        x.horse(2, 50, 4072);
        x.horse(3, 50, 5050);
        x.horse(4, 50, 4070);
        x.horse(5, 50, 3050);
        due("a horse's", x.form(0, 0, 1), 50);
        due("a held one's, below 0", x.form(1, 0, 0), -15);
        due("a picky one's on its own", x.form(2, 2, 0), 50);
        due("a picky one's on another", x.form(2, 3, 0), 43);
        due("a young one's, half of 5", x.form(3, 0, 0), 52);
        x.set(3, 1, 2);
        due("a young one's, half of 20", x.form(3, 0, 0), 60);
        x.set(3, 1, 6);
        due("a young one's at 6", x.form(3, 0, 0), 50);
        x.set(3, 1, 12);
        due("a young one's at 12", x.form(3, 0, 0), 50);
        due("a sly one's on day 0", x.form(4, 0, 0), 50);
        due("a sly one's on day 98", x.form(4, 0, 98), 50);
        due("a sly one's on day 99", x.form(4, 0, 99), 43);
        due("an old one's at 3, half of 15", x.form(5, 0, 0), 54);
        x.set(5, 1, 12);
        due("an old one's at 12", x.form(5, 0, 0), 38);
        x.set(0, 2, 60);
        due("whatever its lead", x.form(0, 0, 0), 50);
        due("horse 6", x.form(6, 0, 0), NO);
        due("horse -1", x.form(-1, 0, 0), NO);
        due("ground 4", x.form(0, 4, 0), NO);
        due("ground -1", x.form(0, -1, 0), NO);
        due("day 100", x.form(0, 0, 100), NO);
        due("day -1", x.form(0, 0, -1), NO);
    }

    private static void told() {
        AtThePost x = new AtThePost();
        x.horse(2, 50, 4073);
        x.horse(0, 40, 5001);
        int[] first = {2, 50, 4, 7, 3, 0, 0, 0, 2, 50};
        for (int what = 0; what < first.length; what++) {
            due("told(0, " + what + ")", x.told(0, what), first[what]);
        }
        x.race(0, 110, 0);
        x.race(0, 101, 0);
        x.race(0, 110, 0);
        due("won of 0", x.told(0, 6), 1);
        due("ran of 0", x.told(0, 7), 3);
        due("won of 1", x.told(1, 6), 2);
        due("what -1", x.told(0, -1), -1000000);
        due("what 10", x.told(0, 10), -1000000);
        due("horse 2", x.told(2, 0), -1000000);
        due("horse -1", x.told(-1, 0), -1000000);
        ruledBy(x, "next 0;hold won*500+ground;say place*1000+ground*100+won-lead;");
        due("hold by the bound", x.told(1, 8), 999);
        due("hold of its own ground", x.told(0, 8), 503);
        x.set(0, 2, 9);
        due("say ahead of any race", x.told(0, 9), 292);
        AtThePost y = ruledBy(withHorses(50), "next 0;hold -1;say 0-9999*9999*99;");
        due("hold by the least bound", y.told(0, 8), 0);
        due("say wraps", y.told(0, 9), (int) -(9999L * 9999L * 99L));
    }

    private static void wins() {
        AtThePost x = withHorses(50, 51, 50);
        due("above", x.wins(3, 0, 0, 0), 2);
        due("below", x.wins(3, 0, 0, 1), 9);
        due("the other's above", x.wins(3, 0, 1, 0), 7);
        due("alike, above", x.wins(5, 399, 2, 0), 1);
        due("alike, below", x.wins(5, 399, 2, 1), 2);
        due("alone, above", x.wins(1, 0, 0, 0), 1);
        due("alone, below", x.wins(1, 0, 0, 1), 1);
        x.set(1, 2, 4);
        due("4 times 2 by 10 is nothing", x.wins(3, 0, 0, 0), 2);
        x.set(1, 2, 5);
        due("5 times 2 by 10 is one", x.wins(3, 0, 0, 1), 2);
        x.pound(1, 4);
        due("5 times 4 by 10 is two", x.wins(3, 100, 0, 0), 7);
        x.pound(4, 0);
        due("no chance, above", x.wins(3, 100, 1, 0), 0);
        due("no chance, below", x.wins(3, 100, 1, 1), 1);
        due("it isn't in the field", x.wins(3, 0, 2, 0), NO);
        due("no horse", x.wins(3, 0, 3, 0), NO);
        due("horse -1", x.wins(3, 0, -1, 0), NO);
        due("horse 32", x.wins(3, 0, 32, 0), NO);
        due("no field", x.wins(0, 0, 0, 0), NO);
        due("a field of no horse", x.wins(9, 0, 0, 0), NO);
        due("a field below 0", x.wins(-1, 0, 0, 0), NO);
        due("when 400", x.wins(3, 400, 0, 0), NO);
        due("when -1", x.wins(3, -1, 0, 0), NO);
        due("part 2", x.wins(3, 0, 0, 2), NO);
        due("part -1", x.wins(3, 0, 0, -1), NO);
        AtThePost y = withHorses(50, 50, 50, 50, 50, 50, 50, 50, 50, 50);
        due("five of ten", y.wins(992, 0, 9, 1), 5);
        due("six of ten", y.wins(1008, 0, 9, 1), NO);
        due("eleven bits", y.wins(1024, 0, 9, 1), NO);
    }

    private static void comes() {
        AtThePost x = withHorses(50, 51, 50);
        due("0 then 1, above", x.comes(3, 0, 101, 0), 1);
        due("0 then 1, below", x.comes(3, 0, 101, 1), 9);
        due("1 then 0, above", x.comes(3, 0, 110, 0), 2);
        due("1 then 0, below", x.comes(3, 0, 110, 1), 3);
        due("alone", x.comes(4, 0, 12, 0), 1);
        // 51 or 52 first, of the others better one 50 or 51: (51;50,49) (52;50,49) (52;51,49) (52;51,50)
        due("three, above", x.comes(7, 0, 1120, 0), 4);
        due("three, below", x.comes(7, 0, 1120, 1), 27);
        due("one too few", x.comes(7, 0, 112, 0), NO);
        due("one too many", x.comes(3, 0, 1012, 0), NO);
        due("one twice", x.comes(3, 0, 100, 0), NO);
        due("another one", x.comes(3, 0, 102, 0), NO);
        due("no 1 ahead", x.comes(3, 0, 201, 0), NO);
        due("a 2 ahead of one alone", x.comes(1, 0, 20, 0), NO);
        due("no digits", x.comes(1, 0, 1, 0), NO);
        due("below 0", x.comes(3, 0, -101, 0), NO);
        due("no field", x.comes(0, 0, 1, 0), NO);
        due("when 400", x.comes(3, 400, 101, 0), NO);
        due("part 2", x.comes(3, 0, 101, 2), NO);
    }

    private static void worse() {
        AtThePost x = withHorses(50, 51, 50);
        due("one better, above", x.worse(3, 0, 0, 1, 0), 2);
        due("one better, below", x.worse(3, 0, 0, 1, 1), 3);
        due("two better of one, above", x.worse(3, 0, 0, 2, 0), 0);
        due("two better of one, below", x.worse(3, 0, 0, 2, 1), 1);
        due("four better of one", x.worse(3, 0, 0, 4, 1), 1);
        due("five better", x.worse(3, 0, 0, 5, 0), NO);
        due("none better", x.worse(3, 0, 0, 0, 0), NO);
        due("it isn't in the field", x.worse(3, 0, 2, 1, 0), NO);
        due("no field", x.worse(8, 0, 0, 1, 0), NO);
        due("when -1", x.worse(3, -1, 0, 1, 0), NO);
        due("part 2", x.worse(3, 0, 0, 1, 2), NO);
    }

    private static void even() {
        AtThePost x = withHorses(50, 51, 50);
        due("above", x.even(3, 0, 0), 5);
        due("below", x.even(3, 0, 1), 9);
        due("alike, above", x.even(5, 0, 0), 0);
        due("alike, below", x.even(5, 0, 1), 1);
        due("no field", x.even(0, 0, 0), NO);
        due("when 400", x.even(3, 400, 0), NO);
        due("part 2", x.even(3, 0, 2), NO);
    }

    /** Of 52 and 50 the better one bears 1 already; by 9 each further pound is worth one. */
    private static AtThePost uneven() {
        AtThePost x = withHorses(52, 50, 50);
        x.pound(0, 9);
        x.set(0, 2, 1);
        return x;
    }

    private static void near() {
        AtThePost x = uneven();
        due("even ahead of it", x.even(3, 0, 0), 8);
        due("turns", x.near(3, 0, 0), 2);
        due("even then, above", x.near(3, 0, 1), 0);
        due("even then, below", x.near(3, 0, 2), 1);
        due("lead of 0 then", x.near(3, 0, 10), 3);
        due("lead of 1 then", x.near(3, 0, 11), 0);
        due("nothing changes", x.told(0, 5), 1);
        due("one not in the field", x.near(3, 0, 12), NO);
        due("what 3", x.near(3, 0, 3), NO);
        due("what 9", x.near(3, 0, 9), NO);
        due("what 20", x.near(3, 0, 20), NO);
        due("what -1", x.near(3, 0, -1), NO);
        due("no field", x.near(0, 0, 0), NO);
        due("when 400", x.near(3, 400, 0), NO);
        AtThePost y = withHorses(99, 42);
        y.pound(0, 9);
        y.pound(4, 3);
        y.set(0, 2, 59);
        due("no lead above 60: turns", y.near(3, 0, 0), 1);
        due("no lead above 60: lead", y.near(3, 0, 10), 60);
    }

    private static void lay() {
        AtThePost x = uneven();
        x.set(2, 2, 7);
        due("turns", x.lay(3, 0), 2);
        due("lead of 0", x.told(0, 5), 3);
        due("lead of 1", x.told(1, 5), 0);
        due("lead of one not in the field", x.told(2, 5), 7);
        due("laid already", x.lay(3, 0), 0);
        due("no field", x.lay(0, 0), -2);
        due("when 400", x.lay(3, 400), -2);
    }

    private static void feed() {
        AtThePost x = new AtThePost();
        due("n 0", x.feed(0, 1), -2);
        due("n 9", x.feed(9, 1), -2);
        due("n -1", x.feed(-1, 1), -2);
        for (int i = 1; i <= 19; i++) {
            due("eight", x.feed(8, -1L), 8 * i);
        }
        due("seven", x.feed(7, 0), 159);
        due("two more", x.feed(2, 0), -4);
        due("BAD ahead of FULL", x.feed(9, 0), -2);
        due("one more", x.feed(1, 0), 160);
        due("another one", x.feed(1, 0), -4);
        due("count(3)", x.count(3), 160);
        due("byte 255 begins nothing", x.text(), -100);
        due("it is empty then", x.count(3), 0);
        fed(x, "next 1;h");
        due("the lowest first", x.text(), -107);
    }

    private static void faultIs(String text, int place) {
        AtThePost x = new AtThePost();
        fed(x, text);
        due("text() of " + text, x.text(), -100 - place);
        due("the tape behind it", x.count(3), 0);
        due("texts behind it", x.count(2), 1);
    }

    private static void stands(String text) {
        AtThePost x = new AtThePost();
        fed(x, text);
        due("text() of " + text, x.text(), 1);
        due("the tape behind it", x.count(3), 0);
        due("texts behind it", x.count(2), 2);
        due("the rule behind it", x.count(4), 0);
    }

    private static void text() {
        stands("next 1;hold 2;say 3;");
        stands("\n next 0000 ; \nhold lead;say(9999) ; \n ");
        stands("next((((( 1)))));hold not not not not not 1;say-----1;");
        stands("next not((((1))))= -1;hold 1-----1;say not 1=((((1))));");
        stands("next(not 1)+(((((1)))));hold -1*-----1;say 1;");
        stands("next 1<2 and 2=3 or not 4<5 and 6;hold not not 1;say 1;");
        faultIs("", 0);
        faultIs("   ", 3);
        faultIs("next", 4);
        faultIs("next ", 5);
        faultIs("hold 1;", 0);
        faultIs("next 1;hold 2;say 3", 19);
        faultIs("next 1;hold 2;say 3  ", 21);
        faultIs("next 1;say 2;", 7);
        faultIs("next 1;hold 2;say 3;;", 20);
        faultIs("next 1;hold 2;say 3; next", 21);
        faultIs("next 12345;", 5);
        faultIs("next 00001;", 5);
        faultIs("next lead lead;", 10);
        faultIs("next lead3;", 9);
        faultIs("next 3lead;", 6);
        faultIs("next1;foo", 6);
        faultIs("nextlead;", 0);
        faultIs("next leads;", 5);
        faultIs("next leadz;", 5);
        faultIs("next bead;", 5);
        faultIs("next 1;hold 2;say" + " ".repeat(141) + "34", 160);
        faultIs("next Lead;", 5);
        faultIs("next\t1;", 4);
        faultIs("next 1\r;", 6);
        faultIs("next 1 > 2;", 7);
        faultIs("next \u00e9;", 5);
        faultIs("next say;", 5);
        faultIs("next 1 < 2 < 3;", 11);
        faultIs("next 1 = 2 < 3;", 11);
        faultIs("next 1 + not 2;", 9);
        faultIs("next - not 2;", 7);
        faultIs("next 1 + ;", 9);
        faultIs("next + 1;", 5);
        faultIs("next 1 or;", 9);
        faultIs("next (1;", 7);
        faultIs("next 1);", 6);
        faultIs("next ();", 6);
        faultIs("next((((((1))))));", 9);
        faultIs("next not not not not not not 1;", 25);
        faultIs("next ------1;", 10);
        faultIs("next not((((-1))));", 12);
        faultIs("next 1------1;", 14);
        faultIs("next 1-------1;", 12);
        faultIs("next not 1=(((((1)))));", 15);
        faultIs("next -(-(not((1))));", 12);
        AtThePost x = new AtThePost();
        for (int n = 1; n < 6; n++) {
            fed(x, "next 1;hold 2;say 3;");
            due("text " + n, x.text(), n);
        }
        due("count(2)", x.count(2), 6);
        due("full ahead of a fault", x.text(), -4);
        fed(x, "next 1;hold 2;say 3;");
        due("a seventh", x.text(), -4);
        due("the tape stays", x.count(3), 20);
    }

    private static void saysOf(String one, int want) {
        AtThePost x = new AtThePost();
        x.horse(0, 70, 5003);
        x.set(0, 2, 11);
        ruledBy(x, "next 1;hold 2;say " + one + ";");
        due("say " + one, x.told(0, 9), want);
    }

    private static void values() {
        saysOf("strength", 70);
        saysOf("lead", 11);
        saysOf("won", 0);
        saysOf("place", 0);
        saysOf("age", 5);
        saysOf("ground", 3);
        saysOf("2+3*4-5", 9);
        saysOf("10-3-2", 5);
        saysOf("(2+3)*4", 20);
        saysOf("-2*3", -6);
        saysOf("2--3", 5);
        saysOf("2*-3", -6);
        saysOf("3 and 4", 1);
        saysOf("3 and 0", 0);
        saysOf("0 or 7", 1);
        saysOf("0 or 0", 0);
        saysOf("1 or 1 and 0", 1);
        saysOf("(1 or 1) and 0", 0);
        saysOf("not 5", 0);
        saysOf("not 0", 1);
        saysOf("not not 5", 1);
        saysOf("not 1 = 2", 1);
        saysOf("not 0 and 0", 0);
        saysOf("2 < 3", 1);
        saysOf("3 < 3", 0);
        saysOf("3 = 3", 1);
        saysOf("3 = 4", 0);
        saysOf("1 + 1 < 1 * 3", 1);
        saysOf("(2 < 3) + (3 = 3)", 2);
        saysOf("8192*8192*64", 0);
        saysOf("8192*8192*32", Integer.MIN_VALUE);
        saysOf("-(8192*8192*32)", Integer.MIN_VALUE);
        saysOf("0<8192*8192*32", 0);
        saysOf("0 or 1 and 2=0+2*(".repeat(5) + "1" + ")".repeat(5), 1);
        saysOf("0 or 1 and 2=0+2*(".repeat(5) + "0 or 1 and 2=0+2*0" + ")".repeat(5), 0);
    }

    private static void force() {
        AtThePost x = withHorses(50);
        due("no text 1", x.force(1), -2);
        due("no text -1", x.force(-1), -2);
        fed(x, "next 1;hold 2;say 3;");
        x.text();
        due("text 1", x.force(1), 0);
        due("count(4)", x.count(4), 1);
        due("say", x.told(0, 9), 3);
        due("text 2", x.force(2), -2);
        due("it again", x.force(1), 1);
        due("text 0", x.force(0), 1);
        due("say by text 0", x.told(0, 9), 50);
    }

    private static void race() {
        AtThePost x = withHorses(60, 55, 50, 45, 40, 35);
        due("when 400", x.race(400, 101, 0), -2);
        due("when -1", x.race(-1, 101, 0), -2);
        due("one alone", x.race(0, 10, 0), -2);
        due("six", x.race(0, 1012345, 0), -2);
        due("one twice", x.race(0, 1010, 0), -2);
        due("no such horse", x.race(0, 106, 0), -2);
        due("no 1 ahead", x.race(0, 201, 0), -2);
        due("below 0", x.race(0, -101, 0), -2);
        due("anew 2", x.race(0, 101, 2), -2);
        due("anew -1", x.race(0, 101, -1), -2);
        due("two", x.race(9, 101, 0), 0);
        due("no lead anew", x.told(0, 5), 0);
        due("five", x.race(309, 143210, 1), 1);
        due("lead of the first", x.told(4, 5), 3);
        due("lead of the fourth", x.told(1, 5), 0);
        due("by the least bound", x.told(0, 5), 0);
        due("a day ahead of the last one", x.race(308, 101, 0), -2);
        x.set(4, 2, 59);
        due("the same day", x.race(9, 1401, 1), 2);
        due("by the greatest bound", x.told(4, 5), 60);
        for (int r = 3; r < 24; r++) {
            due("race " + r, x.race(99, 101, 0), r);
        }
        due("a 25th", x.race(99, 101, 0), -4);
        due("BAD ahead of FULL", x.race(98, 101, 0), -2);
        AtThePost y = withHorses(60, 55);
        y.set(1, 2, 7);
        ruledBy(y, "next won*20+place*10+ground+(lead=7)+age;hold 0;say 0;");
        y.race(305, 101, 1);
        due("the winner's", y.told(0, 5), 28);
        due("the second's", y.told(1, 5), 19);
    }

    private static void raceTold() {
        AtThePost x = withHorses(60, 55, 50);
        x.set(2, 2, 13);
        x.race(207, 1201, 1);
        int[] want = {2, 7, 3, 2, 0, 1, -5, -5, 13, 0, 0, -5, -5, -5};
        for (int what = 0; what < want.length; what++) {
            due("raceTold(0, " + what + ")", x.raceTold(0, what), want[what]);
        }
        due("what -1", x.raceTold(0, -1), -5);
        due("race 1", x.raceTold(1, 0), -5);
        due("race -1", x.raceTold(-1, 0), -5);
        due("a lead anew is none as it was", x.told(2, 5), 16);
        AtThePost y = withHorses(60, 55, 50, 45, 40);
        y.race(0, 143210, 0);
        due("the last of five", y.raceTold(0, 7), 0);
        due("its lead", y.raceTold(0, 12), 0);
    }

    /** 60 bearing 40 comes in behind 55 once, ahead of it once, both on ground 1; 7 by a sly one's day. */
    private static AtThePost metOften() {
        AtThePost x = withHorses(60, 55);
        x.horse(4, 70, 5200);
        x.set(0, 2, 40);
        x.race(101, 110, 0);
        x.race(102, 101, 0);
        x.race(207, 102, 0);
        x.race(208, 102, 0);
        return x;
    }

    private static void against() {
        AtThePost x = metOften();
        // By 1 it is 56 to 55, by 2 52 to 55.
        due("by 0", x.against(1, 0), 1);
        due("by 1", x.against(1, 1), 1);
        due("by 2", x.against(1, 2), 1);
        due("60 to 70 on day 7 and to 50 on day 8", x.against(2, 0), 1);
        due("52 to 70 and to 50", x.against(2, 2), 1);
        due("48 to 70 and to 50", x.against(2, 3), 2);
        due("no races", x.against(0, 0), 0);
        x.race(108, 110, 0);
        due("another one, by 1", x.against(1, 1), 2);
        due("another one, by 2", x.against(1, 2), 1);
        x.set(0, 2, 0);
        due("leads as they were", x.against(1, 2), 1);
        due("ground 4", x.against(4, 0), -2);
        due("ground -1", x.against(-1, 0), -2);
        due("pound 10", x.against(0, 10), -2);
        due("pound -1", x.against(0, -1), -2);
    }

    private static void learnt() {
        AtThePost x = metOften();
        due("of like ones the least", x.learnt(1), 0);
        x.race(108, 110, 0);
        due("by 2 fewer are against it", x.learnt(1), 2);
        due("no races", x.learnt(3), 0);
        due("ground 4", x.learnt(4), -2);
        due("ground -1", x.learnt(-1), -2);
    }

    private static void pair() {
        AtThePost x = metOften();
        due("races", x.pair(0, 1, 0), 2);
        due("ahead", x.pair(0, 1, 1), 1);
        due("expected of 52 to 55", x.pair(0, 1, 2), 0);
        due("expected of 55 to 52", x.pair(1, 0, 2), 2);
        x.pound(1, 1);
        due("expected of 56 to 55", x.pair(0, 1, 2), 2);
        due("races with the sly one", x.pair(2, 0, 0), 2);
        due("never ahead", x.pair(2, 0, 1), 0);
        due("expected on day 7 alone", x.pair(2, 0, 2), 1);
        due("never met", x.pair(1, 2, 0), 0);
        due("alike", x.pair(1, 1, 0), -2);
        due("horse 3", x.pair(1, 3, 0), -2);
        due("horse -1", x.pair(-1, 1, 0), -2);
        due("what 3", x.pair(0, 1, 3), -2);
        due("what -1", x.pair(0, 1, -1), -2);
        AtThePost y = withHorses(50, 50);
        y.race(0, 101, 0);
        due("alike is not above", y.pair(0, 1, 2), 0);
    }

    private static void holding() {
        AtThePost x = withHorses(55, 55);
        x.set(0, 2, 4);
        x.pound(0, 5);
        // Day 0 is lost anyhow (53 to 55, then 54 to 55 with 2, then 55 to 55 with 0): let, it costs nothing.
        due("of like ones the least that is best", x.holding(3, 2, 0, 50, 0), 7);
        due("it comes to", x.holding(3, 2, 0, 50, 1), 0);
        x.set(0, 0, 57);
        // Let on day 0 (53 + 2 = 55 to 55) it loses; with 2 it is 56 to 55 and wins.
        due("the last day's prize", x.holding(3, 1, 0, 50, 1), 50);
        // Won on day 1 it bears 6 on day 2 (54 to 55); held back on day 1 it wins on day 2 with 0.
        due("held back ahead of it", x.holding(3, 2, 0, 50, 0), 5);
        due("at a price of 2", x.holding(3, 2, 0, 50, 1), 48);
        due("a poor prize", x.holding(3, 2, 0, 1, 0), 7);
        due("comes to an early one", x.holding(3, 2, 0, 1, 1), 10);
        due("nothing changes", x.told(0, 5), 4);
        due("alone it always wins", x.holding(1, 5, 0, 7, 1), 57);
        due("on all days", x.holding(1, 5, 0, 7, 0), 63);
        due("a prize of 999 on day 0", x.holding(1, 300, 0, 999, 1), 999);
        due("last day 6", x.holding(3, 6, 0, 1, 0), NO);
        due("ground 4", x.holding(3, 400, 0, 1, 0), NO);
        due("when -1", x.holding(3, -1, 0, 1, 0), NO);
        due("prize 1000", x.holding(3, 0, 0, 1000, 0), NO);
        due("prize -1", x.holding(3, 0, 0, -1, 0), NO);
        due("it isn't in the field", x.holding(2, 0, 0, 1, 0), NO);
        due("no field", x.holding(0, 0, 0, 1, 0), NO);
        due("what 2", x.holding(3, 0, 0, 1, 2), NO);
        due("what -1", x.holding(3, 0, 0, 1, -1), NO);
        ruledBy(x, "next 0;hold lead-4;say 0;");
        // Held back costs nothing while it bears no more than 4, so no day but the won one is let.
        due("free, of like ones the least", x.holding(3, 2, 0, 50, 0), 4);
        due("free, it comes to", x.holding(3, 2, 0, 50, 1), 50);
        x.set(0, 2, 60);
        // 60 costs 56, 58 costs 54: let it lose on all days.
        due("dear by its lead then", x.holding(3, 1, 0, 50, 0), 3);
        AtThePost y = new AtThePost();
        y.horse(4, 60, 5200);
        y.horse(0, 50, 5000);
        due("a sly one on day 0", y.holding(3, 0, 0, 5, 1), 5);
        due("a sly one on day 1", y.holding(3, 1, 0, 5, 1), 10);
    }

    private static void yards() {
        AtThePost x = withHorses(50, 50, 50);
        x.set(0, 2, 30);
        x.set(1, 2, 19);
        due("6 to 3", x.yards(3, 0, 0), 9);
        due("the least", x.yards(3, 0, 1), 0);
        due("6 to 0", x.yards(7, 0, 0), 18);
        due("3 to 0", x.yards(7, 0, 1), 9);
        due("alone", x.yards(1, 0, 0), 0);
        x.pound(3, 9);
        due("27 to 17", x.yards(3, 3, 0), 30);
        due("it isn't in the field", x.yards(3, 0, 2), -2);
        due("no field", x.yards(0, 0, 0), -2);
        due("ground 4", x.yards(3, 4, 0), -2);
        due("ground -1", x.yards(3, -1, 0), -2);
    }

    private static void season() {
        AtThePost x = withHorses(60, 60);
        x.pound(4, 0);
        // Without a spread 0 wins till it bears 5: by the rule it has 3 behind race 1, 6 behind race 2.
        due("one race, won by the least", x.season(3, 1, 0, 0, 0), 1);
        due("its lead", x.season(3, 1, 0, 0, 1), 3);
        due("the second's lead", x.season(3, 1, 0, 1, 1), 2);
        due("two races", x.season(3, 2, 0, 0, 0), 2);
        due("its lead", x.season(3, 2, 0, 0, 1), 6);
        due("three races: 59 to 60", x.season(3, 3, 0, 1, 0), 1);
        due("the second's lead", x.season(3, 3, 0, 1, 1), 7);
        due("nothing changes", x.told(0, 5) + x.count(1), 0);
        x.pound(4, 3);
        // The first lots of seed 0 are 48271 and 48271 * 48271 mod 2147483647 = 182605794.
        due("by lots", x.season(3, 101, 0, 0, 0), 48271 % 7 >= 182605794 % 7 ? 1 : 0);
        due("n 0", x.season(3, 0, 0, 0, 0), -2);
        due("n 13", x.season(3, 13, 0, 0, 0), -2);
        due("ground 4", x.season(3, 401, 0, 0, 0), -2);
        due("when below 0", x.season(3, -99, 0, 0, 0), -2);
        due("seed -1", x.season(3, 1, -1, 0, 0), -2);
        due("seed 100000", x.season(3, 1, 100000, 0, 0), -2);
        due("horse 2", x.season(3, 1, 0, 2, 0), -2);
        due("horse -1", x.season(3, 1, 0, -1, 0), -2);
        x.set(1, 2, 17);
        due("one outside the field never wins", x.season(1, 12, 0, 1, 0), 0);
        due("one outside the field keeps its lead", x.season(1, 12, 0, 1, 1), 17);
        due("also behind a season that it ran in", x.season(3, 12, 0, 1, 0) + x.season(1, 12, 0, 1, 0),
                x.season(3, 12, 0, 1, 0));
        x.set(1, 2, 0);
        due("no field", x.season(0, 1, 0, 0, 0), -2);
        due("what 2", x.season(3, 1, 0, 0, 2), -2);
        due("what -1", x.season(3, 1, 0, 0, -1), -2);
        due("the last seed alone", x.season(1, 12, 99999, 0, 0), 12);
        x.race(0, 101, 0);
        ruledBy(x, "next won*10+ground;hold 0;say 0;");
        due("won with those ahead of it", x.season(1, 302, 0, 0, 1), 33);
    }

    private static void image() {
        AtThePost x = withHorses(50, 60);
        due("no races", x.image(), 0);
        x.race(0, 101, 0);
        due("one race", x.image(), 1);
        due("the later one is kept", x.back(), 1);
    }

    private static void back() {
        AtThePost x = withHorses(50, 60);
        due("there is none", x.back(), -3);
        x.race(50, 101, 0);
        x.set(0, 2, 20);
        x.image();
        x.set(0, 0, 1);
        x.set(0, 1, 11);
        x.set(0, 2, 33);
        x.pound(2, 9);
        x.pound(4, 3);
        x.horse(1, 40, 3010);
        x.set(2, 2, 44);
        fed(x, "next 1;hold 2;say 3;");
        x.text();
        x.force(1);
        x.feed(3, 0);
        x.race(60, 110, 1);
        due("races", x.back(), 1);
        due("strength", x.told(0, 1), 50);
        due("age", x.told(0, 2), 5);
        due("lead", x.told(0, 5), 20);
        due("lead of one that came since", x.told(2, 5), 44);
        due("horses stay", x.count(0), 3);
        due("count(1)", x.count(1), 1);
        due("texts stay", x.count(2), 2);
        due("the tape stays", x.count(3), 3);
        due("the rule", x.count(4), 0);
        due("spread", x.count(5), 1);
        due("a race that is gone", x.raceTold(1, 0), -5);
        due("won is less", x.told(1, 6), 0);
        due("pound", x.pound(2, 4), 2);
        due("a day ahead of the one that is gone", x.race(50, 112, 0), 1);
        due("back again", x.back(), 1);
        due("pound again", x.pound(2, 4), 2);
    }

    private static void count() {
        AtThePost x = withHorses(50, 60, 70);
        x.set(0, 2, 20);
        x.set(2, 2, 60);
        x.race(0, 101, 0);
        x.race(0, 101, 0);
        fed(x, "next 1;hold 2;say 3;");
        x.text();
        x.force(1);
        x.feed(5, 0);
        x.pound(4, 3);
        int[] want = {3, 2, 2, 5, 1, 3, 80, -2};
        for (int what = 0; what < want.length; what++) {
            due("count(" + what + ")", x.count(what), want[what]);
        }
        due("count(-1)", x.count(-1), -2);
    }

    private static void sheet() {
        AtThePost x = new AtThePost();
        due("sheet 4", x.sheet(4, 0, 1), -2);
        due("sheet -1", x.sheet(-1, 0, 1), -2);
        due("sort 3", x.sheet(0, 3, 1), -2);
        due("sort -2", x.sheet(0, -2, 1), -2);
        due("41 items", x.sheet(0, 2, 41), -2);
        due("-1 items", x.sheet(0, 2, -1), -14);
        due("a wrong sort ahead of a size below 0", x.sheet(0, 3, -1), -2);
        due("still missing", x.cell(0, 0, 1), -11);
        due("40 items", x.sheet(0, 2, 40), 1);
        due("the last one", x.cell(0, 39, 1), 1);
        due("no items", x.sheet(1, 0, 0), 1);
        due("none there", x.cell(1, 0, 1), -12);
        due("a size below 0 changes nothing", x.sheet(0, 2, -1), -14);
        due("the last one still", x.cell(0, 39, 1), 1);
        due("missing, whatever n", x.sheet(0, -1, -7), 1);
        due("missing again", x.sheet(0, -1, 99), 1);
        due("it is missing", x.cell(0, 0, 1), -11);
        x.sheet(0, 2, 3);
        x.cell(0, 2, 2000);
        x.sheet(0, 2, 3);
        due("all 0 again, so no horse", x.horses(0, 2, 0, 1), 0);
    }

    private static void cell() {
        AtThePost x = new AtThePost();
        x.sheet(0, 0, 3);
        x.sheet(1, 1, 3);
        x.sheet(2, 2, 3);
        due("sheet 4", x.cell(4, 0, 0), -2);
        due("sheet -1", x.cell(-1, 0, 0), -2);
        due("missing", x.cell(3, -1, 0), -11);
        due("item 3", x.cell(0, 3, 0), -12);
        due("item -1", x.cell(0, -1, 0), -12);
        due("an int", x.cell(2, 2, 2000), 1);
        due("a horse by ints", x.horses(2, 2, 0, 1), 1);
        due("a short by its lowest bits", x.cell(1, 2, 3000 + 65536), 1);
        due("a horse by shorts", x.horses(1, 1, 0, 1), 1);
        due("its age", x.told(1, 2), 3);
        due("a byte by its lowest bits", x.cell(0, 2, 2000), 1);
        due("no horse by bytes", x.horses(0, 0, 0, 1), 0);
        x.cell(2, 2, 3000 + 65536);
        due("an int has all its bits", x.horses(2, 2, 0, 1), 0);
    }

    private static void copy() {
        AtThePost x = new AtThePost();
        x.sheet(0, 2, 6);
        x.sheet(1, 2, 4);
        x.sheet(2, 1, 4);
        due("no sheet 4", x.copy(4, 0, 0, 0, 1), -2);
        due("no other -1", x.copy(0, 0, -1, 0, 1), -2);
        due("BAD ahead of a missing one", x.copy(3, 0, 4, 0, 1), -2);
        due("missing", x.copy(3, 9, 0, 0, 1), -11);
        due("the other one is missing", x.copy(0, 9, 3, 0, 1), -11);
        due("unlike sorts ahead of places", x.copy(0, 9, 2, 0, 1), -13);
        due("n below 0", x.copy(0, 0, 1, 0, -1), -12);
        due("i below 0", x.copy(0, -1, 1, 0, 1), -12);
        due("j below 0", x.copy(0, 0, 1, -1, 1), -12);
        due("too long for the one", x.copy(1, 1, 0, 0, 4), -12);
        due("too long for the other", x.copy(0, 0, 1, 1, 4), -12);
        due("far outside", x.copy(0, Integer.MAX_VALUE, 1, Integer.MAX_VALUE, Integer.MAX_VALUE), -12);
        due("just none at the end", x.copy(0, 6, 1, 4, 0), 0);
        due("none behind the end", x.copy(0, 7, 1, 4, 0), -12);
        x.cell(0, 1, 77);
        x.cell(0, 2, 2031);
        due("three", x.copy(0, 0, 1, 1, 3), 3);
        due("a horse by them", x.horses(1, 2, 1, 1), 1);
        due("its strength", x.told(0, 1), 77);
        due("its number", x.told(0, 3), 3);
        // Behind it the row is 0 77 0 77 2031 0: those that come one item on come as they were.
        due("onto itself", x.copy(0, 1, 0, 3, 2), 2);
        due("onto itself, one on", x.copy(0, 2, 0, 3, 3), 3);
        // 0 77 2031 2031 77 2031: of item 3 on no kind, of item 0 on a horse.
        due("what stood first", x.horses(0, 2, 0, 2), 1);
        due("how many", x.count(0), 2);
    }

    private static void horses() {
        AtThePost x = new AtThePost();
        x.sheet(0, 2, 9);
        for (int i = 0; i < 3; i++) {
            x.cell(0, 3 * i, i);
            x.cell(0, 3 * i + 1, 50 + i);
            x.cell(0, 3 * i + 2, 2000);
        }
        due("sheet 4", x.horses(4, 2, 0, 1), -2);
        due("sheet -1", x.horses(-1, 2, 0, 1), -2);
        due("sort 3", x.horses(0, 3, 0, 1), -2);
        due("sort -1", x.horses(0, -1, 0, 1), -2);
        due("n 11", x.horses(0, 2, 0, 11), -2);
        due("n -1", x.horses(0, 2, 0, -1), -2);
        due("another sort", x.horses(0, 1, 0, 1), -13);
        due("missing", x.horses(1, 1, 0, 1), -11);
        due("none, from anywhere", x.horses(0, 2, -5, 0), 0);
        due("from -1", x.horses(0, 2, -1, 1), -12);
        due("from the greatest int", x.horses(0, 2, Integer.MAX_VALUE, 1), -12);
        due("none came", x.count(0), 0);
        due("outside: what stood ahead came", x.horses(0, 2, 3, 3), -12);
        due("two came", x.count(0), 2);
        due("the first's strength", x.told(0, 1), 51);
        due("the second's kind", x.told(1, 0), 2);
        x.cell(0, 4, 100);
        due("one is left out", x.horses(0, 2, 0, 3), 2);
        due("from 6", x.horses(0, 2, 6, 1), 1);
        x.cell(0, 4, 99);
        x.horses(0, 2, 0, 3);
        due("nine or so", x.count(0), 8);
        due("as many as have room", x.horses(0, 2, 0, 3), 2);
        due("full", x.horses(0, 2, 0, 3), 0);
        due("outside ends it, full too", x.horses(0, 2, 0, 4), -12);
        due("ten", x.count(0), 10);
    }

    private static void taken() {
        AtThePost x = new AtThePost();
        for (int kind = 0; kind < 6; kind++) {
            x.horse(kind, 50, 2000 + 10 * (kind + 1));
        }
        boolean[][] under = {
            {true, false, false, false, false, false},
            {true, true, false, false, false, false},
            {true, false, true, false, false, false},
            {true, false, false, true, false, false},
            {true, true, false, false, true, false},
            {true, false, false, true, false, true},
        };
        for (int h = 0; h < 6; h++) {
            for (int k = 0; k < 6; k++) {
                due("taken(" + h + ", " + k + ")", x.taken(h, k), under[h][k] ? h + 1 : -13);
            }
        }
        due("k 6", x.taken(0, 6), -2);
        due("k -1 ahead of no horse", x.taken(9, -1), -2);
        due("no horse", x.taken(6, 0), -11);
        due("horse -1", x.taken(-1, 5), -11);
    }
}
