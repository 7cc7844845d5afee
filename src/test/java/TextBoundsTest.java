// The texts of terms 1: what each token may be, where each may stand, the place of each fault, how much may be
// open, where an int wraps, and the bounds of what a rule says.
public final class TextBoundsTest extends Checks {
    private static final String[] TOKENS = {"next", "hold", "say", "or", "and", "not", "lead", "5", "(", ")", ";",
        "+", "-", "*", "<", "="};
    private static final String BEGINS_E = " not lead 5 ( - ", BEGINS_SUM = " lead 5 ( - ", GOES_ON = " + - * ";

    public static void main(String[] args) {
        tape();
        fed();
        everyByte();
        tokens();
        blanks();
        whatMayStand();
        endsTooEarly();
        faults();
        fiveOpen();
        sixTexts();
        textZero();
        truths();
        wrapping();
        names();
        nextBounds();
        holdBounds();
        sayBounds();
        end();
    }

    private static long read(AtThePost x, String text) {
        fed(x, text);
        return x.text();
    }

    private static void stands(String text) {
        AtThePost x = new AtThePost();
        due("text() of " + text, read(x, text), 1);
        due("the tape behind it", x.count(3), 0);
        due("texts behind it", x.count(2), 2);
        due("the rule behind it", x.count(4), 0);
    }

    /** The tape is empty then as it was ahead of it, so that all is as it was. */
    private static void faultIs(String text, int place) {
        refused(Starts.NEW, "text() of " + text, x -> read(x, text), -100 - place);
    }

    private static String padded(String text, int size) {
        return text + " ".repeat(size - text.length());
    }

    private static void tape() {
        sentence("THE TAPE (160 bytes at most)");
        for (int n = 1; n <= 8; n++) {
            int bytes = n;
            AtThePost x = new AtThePost();
            fed(x, padded("", 160 - n));
            due("the last " + n, x.feed(n, 0L), 160);
            Start almost = () -> {
                AtThePost y = new AtThePost();
                fed(y, padded("next 1;hold 2;say 3;", 161 - bytes));
                return y;
            };
            refused(almost, "feed(" + n + ") behind " + (161 - n), y -> y.feed(bytes, -1L), FULL);
        }
        refused(Starts.ALL, "one more", x -> x.feed(1, 32L), FULL);
        stands(padded("next 1;hold 2;say 3;", 160));
        stands(" ".repeat(140) + "next 1;hold 2;say 3;");
        due("empty at first", new AtThePost().count(3), 0);
    }

    private static void fed() {
        sentence("The n lowest bytes of a number, the lowest first. BAD: n is not 1 .. 8");
        within(Starts.NEW, "feed(v, 0)", 1, 8, BAD, (x, v) -> x.feed(v, 0L));
        within(Starts.SOME, "feed(v, 0)", 1, 8, BAD, (x, v) -> x.feed(v, 0L));
        for (int n = 1; n <= 8; n++) {
            AtThePost x = new AtThePost();
            due("feed(" + n + ")", x.feed(n, 0x2020202020202020L), n);
            due("count(3)", x.count(3), n);
            due("as many blanks", x.text(), -100 - n);
            // The byte above the n lowest ones is left out, so the text ends behind them; else it ends in a fault.
            long blanks = n == 8 ? 0x2020202020202020L : (1L << 8 * n) - 1 & 0x2020202020202020L;
            x.feed(n, n == 8 ? blanks : blanks | 0xffL << 8 * n);
            due("none above the " + n + " lowest", x.text(), -100 - n);
            // The greatest one of the n is the last one.
            x.feed(n, blanks ^ 0x20L << 8 * (n - 1) | 0xffL << 8 * (n - 1));
            due("the last of " + n, x.text(), -100 - (n - 1));
        }
        AtThePost x = new AtThePost();
        x.feed(8, Long.MIN_VALUE | 0x0020202020202020L);
        due("the byte 128 is the last one", x.text(), -107);
        x.feed(8, -1L);
        due("the byte 255 is the first one", x.text(), -100);
    }

    /** Each byte behind a WORD, and where an E begins. */
    private static void everyByte() {
        sentence("WORDS (a .. z), NUMBERS, SIGNS ( ) ; + - * < = ; blanks (32, 10); a byte that begins none");
        for (int b = 0; b < 256; b++) {
            char one = (char) b;
            boolean isBlank = b == 32 || b == 10;
            boolean isLetter = b >= 97 && b <= 122;
            boolean isDigit = b >= 48 && b <= 57;
            String behind = "next lead" + one + "lead;hold 2;say 3;";
            if ("+-*<=".indexOf(one) >= 0) {
                stands(behind);
            } else {
                faultIs(behind, isBlank || one == ';' ? 10 : isLetter ? 5 : 9);
            }
            String first = "next " + one + ";hold 2;say 3;";
            if (isDigit) {
                stands(first);
            } else {
                faultIs(first, isBlank || one == '-' || one == '(' ? 6 : 5);
            }
        }
    }

    private static void tokens() {
        sentence("TOKENS, each as long as can be");
        faultIs("nextlead;", 0);
        faultIs("next leads;", 5);
        faultIs("next leadlead;", 5);
        faultIs("next notlead;", 5);
        faultIs("next 1 and2 or3or4;", 19);
        stands("next lead+3and 4or not 5;hold 2;say(3);");
        stands("next 1;hold not(2);say--3;");
        sentence("NUMBERS (as many digits as stand there, 4 at most)");
        stands("next 0;hold 9999;say 0000;");
        faultIs("next 10000;hold 2;say 3;", 5);
        faultIs("next 00000;hold 2;say 3;", 5);
        faultIs("next 1;hold 99999999999999999999;say 3;", 12);
        faultIs("next 1234 5;hold 2;say 3;", 10);
        faultIs("next 12 34;hold 2;say 3;", 8);
        sentence("NAMES are strength lead won place age ground; next, hold, say, or, and, not are KEYS");
        stands("next strength+lead+won;hold place+age;say ground;");
        for (String none : new String[] {"s", "strengt", "strengths", "lea", "wo", "wonn", "plac", "ag", "groun", "kind",
            "number", "day", "an", "o", "no", "z", "a"}) {
            faultIs("next " + none + ";hold 2;say 3;", 5);
        }
        for (String key : new String[] {"next", "hold", "say", "or", "and"}) {
            faultIs("next " + key + ";hold 2;say 3;", 5);
        }
        faultIs("nex 1;", 0);
        faultIs("nexts 1;", 0);
        faultIs("next 1;holds 2;", 7);
        faultIs("next 1;hold 2;sa 3;", 14);
    }

    private static void blanks() {
        sentence("blanks (32, 10) may stand between");
        stands(" \n next \n 1 \n ; \n hold \n - \n 2 \n ; \n say \n ( \n 3 \n ) \n ; \n ");
        stands("next 1;hold-2;say(3);");
        for (int blank : new int[] {0, 9, 11, 12, 13, 31, 33, 133, 160}) {
            faultIs("next 1" + (char) blank + ";hold 2;say 3;", 6);
            faultIs((char) blank + "next 1;hold 2;say 3;", 0);
            faultIs("next 1;hold 2;say 3;" + (char) blank, 20);
        }
    }

    /** What may stand behind what was read; behind what may not, the fault is at once, else at the end. */
    private static void whatMayStand() {
        sentence("the first TOKEN that can't stand there");
        mayFollow("", " next ");
        mayFollow("next", BEGINS_E);
        mayFollow("next not", BEGINS_E);
        mayFollow("next 1 or", BEGINS_E);
        mayFollow("next 1 and", BEGINS_E);
        mayFollow("next (", BEGINS_E);
        mayFollow("next -", BEGINS_SUM);
        mayFollow("next 1 +", BEGINS_SUM);
        mayFollow("next 1 -", BEGINS_SUM);
        mayFollow("next 1 *", BEGINS_SUM);
        mayFollow("next 1 <", BEGINS_SUM);
        mayFollow("next 1 =", BEGINS_SUM);
        mayFollow("next 1", GOES_ON + " < = and or ; ");
        mayFollow("next lead", GOES_ON + " < = and or ; ");
        mayFollow("next -1", GOES_ON + " < = and or ; ");
        mayFollow("next (1)", GOES_ON + " < = and or ; ");
        mayFollow("next 1*2", GOES_ON + " < = and or ; ");
        mayFollow("next not 1", GOES_ON + " < = and or ; ");
        mayFollow("next 1 and 2", GOES_ON + " < = and or ; ");
        mayFollow("next 1 < 2", GOES_ON + " and or ; ");
        mayFollow("next 1 = 2", GOES_ON + " and or ; ");
        mayFollow("next not 1 = 2", GOES_ON + " and or ; ");
        mayFollow("next 1 < 2 and 3", GOES_ON + " < = and or ; ");
        mayFollow("next (1", GOES_ON + " < = and or ) ");
        mayFollow("next (1 < 2", GOES_ON + " and or ) ");
        mayFollow("next (1 < 2)", GOES_ON + " < = and or ; ");
        mayFollow("next 1;", " hold ");
        mayFollow("next 1;hold", BEGINS_E);
        mayFollow("next 1;hold 2", GOES_ON + " < = and or ; ");
        mayFollow("next 1;hold 2;", " say ");
        mayFollow("next 1;hold 2;say", BEGINS_E);
        mayFollow("next 1;hold 2;say (3", GOES_ON + " < = and or ) ");
        mayFollow("next 1;hold 2;say 3;", " ");
        stands("next 1;hold 2;say 3 ;");
    }

    private static void mayFollow(String read, String allowed) {
        for (String token : TOKENS) {
            String text = read + " " + token;
            boolean may = allowed.contains(" " + token + " ");
            if (!text.equals("next 1;hold 2;say 3 ;")) {
                faultIs(text, may ? text.length() : read.length() + 1);
            }
        }
    }

    private static void endsTooEarly() {
        sentence("FAULT: the text's size, if it ends too early");
        String text = "next lead+3-(place);hold 25 and not 2;say -strength<lead;";
        for (int size = 0; size < text.length(); size++) {
            int cutWord = size;
            while (cutWord > 0 && size < text.length() && isLetter(text.charAt(size)) && isLetter(text.charAt(cutWord - 1))) {
                cutWord--;
            }
            faultIs(text.substring(0, size), cutWord);
        }
        stands(text);
        faultIs("", 0);
        faultIs(" ", 1);
        faultIs("\n\n", 2);
        faultIs("next 1;hold 2;say 3 \n", 21);
        faultIs(padded("next 1;hold 2;say 3", 159), 159);
        faultIs(padded("next 1;hold 2;say 3", 160), 160);
        faultIs(" ".repeat(160), 160);
        faultIs("next 1;hold 2;say 1234" + "+1234".repeat(27) + "+12", 160);
    }

    private static boolean isLetter(char one) {
        return one >= 'a' && one <= 'z';
    }

    private static void faults() {
        sentence("FAULT: also of a byte that begins none, a WORD that is neither, a NUMBER that is too long");
        faultIs("?", 0);
        faultIs(padded("next 1;hold 2;say 3;", 159) + "?", 159);
        faultIs(padded("next 1;hold 2;say 3;", 159) + "n", 159);
        faultIs(padded("next 1;hold 2;say 3;", 155) + "12345", 155);
        faultIs(padded("next 1;hold 2;say", 156) + "1234", 160);
        faultIs(padded("next 1;hold 2;say", 155) + "12345", 155);
        faultIs("next 12345 ?;", 5);
        faultIs("next ? 12345;", 5);
        faultIs("next lead lead ?", 10);
        sentence("THE TAPE, which is empty then (by a FAULT, too)");
        AtThePost x = new AtThePost();
        due("a fault", read(x, "next 1;hold 2;say 3;;"), -120);
        due("count(3)", x.count(3), 0);
        due("a text behind it", read(x, "next 1;hold 2;say 3;"), 1);
        due("count(3)", x.count(3), 0);
        due("nothing behind it", x.text(), -100);
    }

    private static void fiveOpen() {
        sentence("a ( , a not, a - ahead of a ONE while 5 of these are open");
        String[] heads = {"next ", "next 1;hold ", "next 1;hold 2;say "};
        String[] tails = {";hold 2;say 3;", ";say 3;", ";"};
        for (int i = 0; i < heads.length; i++) {
            String head = heads[i];
            String tail = tails[i];
            int at = head.length();
            stands(head + "(((((1)))))" + tail);
            faultIs(head + "((((((1))))))" + tail, at + 5);
            stands(head + "-----1" + tail);
            faultIs(head + "------1" + tail, at + 5);
            stands(head + "not not not not not 1" + tail);
            faultIs(head + "not not not not not not 1" + tail, at + 20);
            stands(head + "not(-(-1))" + tail);
            stands(head + "not(-(not 1))" + tail);
            faultIs(head + "not(-(-(1)))" + tail, at + 7);
            faultIs(head + "not(-(--1))" + tail, at + 7);
            faultIs(head + "not(-(not not 1))" + tail, at + 10);
            faultIs(head + "(((((not 1)))))" + tail, at + 5);
            faultIs(head + "(((((-1)))))" + tail, at + 5);
            faultIs(head + "-----(1)" + tail, at + 5);
            faultIs(head + "not not not not not(1)" + tail, at + 19);
            faultIs(head + "not not not not not -1" + tail, at + 20);
        }
        sentence("a ( till its )");
        stands("next (((((1)))))*(((((1)))));hold 2;say 3;");
        stands("next ((((1)+(1))));hold 2;say 3;");
        stands("next ((((1)+(-1))));hold 2;say 3;");
        faultIs("next ((((1)+((-1)))));hold 2;say 3;", 14);
        stands("next (((((1-1)))));hold 2;say 3;");
        sentence("not till what it belongs to ends");
        stands("next not not not not not 1 and not not not not not 1 or (((((1)))));hold 2;say 3;");
        stands("next not not not not 1=-1;hold 2;say 3;");
        faultIs("next not not not not not 1=-1;hold 2;say 3;", 27);
        faultIs("next not not not not not 1+(1);hold 2;say 3;", 27);
        faultIs("next not not not not not 1*-1;hold 2;say 3;", 27);
        stands("next not not not not not 1-1;hold 2;say 3;");
        stands("next (not not not not 1)+(((((1)))));hold 2;say 3;");
        sentence("- till what it belongs to ends");
        stands("next -----1*-----1+-----1------1<-----1 and -----1;hold 2;say 3;");
        faultIs("next -----1*------1;hold 2;say 3;", 17);
        stands("next ----(1);hold 2;say 3;");
        stands("next ----(1)+(((((1)))));hold 2;say 3;");
        faultIs("next ----(1-(1));hold 2;say 3;", 12);
        sentence("the five are of each E by itself");
        stands("next (((((1)))));hold -----2;say not not not not not 3;");
    }

    private static void sixTexts() {
        sentence("There are 6 TEXTS at most, TEXT 0 with them");
        AtThePost x = new AtThePost();
        for (int n = 1; n < 6; n++) {
            due("count(2)", x.count(2), n);
            due("text " + n, read(x, "next " + n + ";hold 2;say 10*" + n + ";"), n);
        }
        due("count(2)", x.count(2), 6);
        x.horse(0, 50, 5000);
        for (int n = 1; n < 6; n++) {
            x.force(n);
            due("say of text " + n, x.told(0, 9), 10 * n);
        }
        AtThePost longer = withHorses(50);
        for (int n = 1; n < 6; n++) {
            String ones = "+1".repeat(65 - n);
            due("a fault", read(longer, "next 1" + ones + ";hold 2;say 3*"), -120 - ones.length());
            due("long text " + n, read(longer, "next 1" + ones + ";hold 2;say " + n + "*7;"), n);
        }
        for (int n = 1; n < 6; n++) {
            longer.force(n);
            due("say of long text " + n, longer.told(0, 9), 7 * n);
            due("hold of long text " + n, longer.told(0, 8), 2);
            due("next of long text " + n, longer.season(1, 1, 0, 0, 1), Math.min(60, 66 - n));
        }
        sentence("FULL (ahead of all): no TEXT more has room (THE TAPE stays)");
        refused(Starts.ALL, "text() of 160 bytes that begin none", y -> y.text(), FULL);
        due("an empty one", x.text(), FULL);
        fed(x, "next 1;hold 2;say 3;");
        due("a seventh", x.text(), FULL);
        due("the tape", x.count(3), 20);
        due("again", x.text(), FULL);
        fed(x, "?");
        due("a fault", x.text(), FULL);
        due("the tape", x.count(3), 21);
        due("count(2)", x.count(2), 6);
    }

    private static void textZero() {
        sentence("TEXT 0, at first THE RULE, is: next lead + 3 - place ; hold 2 ; say strength - lead ;");
        AtThePost x = bearing(withHorses(50, 0, 99, 50, 50), 0, 60, 57, 1, 0);
        due("count(4)", x.count(4), 0);
        due("hold", x.told(0, 8), 2);
        due("say", x.told(0, 9), 50);
        due("say of the weakest with most lead", x.told(1, 9), -60);
        due("say of the strongest", x.told(2, 9), 42);
        x.race(0, 112340, 1);
        // 60 + 3, 57 + 2, 1 + 1, 0 + 0, 0 - 1.
        int[] leads = {0, 60, 59, 2, 0};
        for (int h = 0; h < 5; h++) {
            due("next lead of " + h, x.told(h, 5), leads[h]);
        }
    }

    /** Of a HORSE with STRENGTH 70, LEAD 11, AGE 5, GROUND 3, that won no RACE. */
    private static void saysOf(String e, int want) {
        AtThePost x = new AtThePost();
        x.horse(0, 70, 5003);
        x.set(0, 2, 11);
        ruledBy(x, "next 1;hold 2;say " + e + ";");
        due("say " + e, x.told(0, 9), want);
    }

    private static void truths() {
        sentence("of or, and, not, <, = 1 or 0 (what is not 0 is true)");
        saysOf("5 or 0", 1);
        saysOf("0 or -5", 1);
        saysOf("0 or 0", 0);
        saysOf("5 and -5", 1);
        saysOf("5 and 0", 0);
        saysOf("0 and 5", 0);
        saysOf("1 and 1 and 0", 0);
        saysOf("0 or 0 or 9", 1);
        saysOf("not 0", 1);
        saysOf("not 1", 0);
        saysOf("not -1", 0);
        saysOf("not not 9", 1);
        saysOf("-1 < 0", 1);
        saysOf("0 < 0", 0);
        saysOf("0 < -1", 0);
        saysOf("-1 = -1", 1);
        saysOf("-1 = 1", 0);
        saysOf("7", 7);
        saysOf("(7)", 7);
        sentence("E: AND { or AND }, AND: NOT { and NOT }, NOT: SUM < SUM, SUM: TERM { + TERM }, TERM: ONE { * ONE }");
        saysOf("1 or 0 and 0", 1);
        saysOf("0 and 0 or 1", 1);
        saysOf("not 0 or 1 and 0", 1);
        saysOf("not 2 < 1", 1);
        saysOf("not (2 < 1) = 1", 1);
        saysOf("(not 2 < 1) = 1", 1);
        saysOf("not (1 < 2) = 1", 0);
        saysOf("2 < 1 + 2", 1);
        saysOf("1 + 2 * 3 - 4 * 5", -13);
        saysOf("9 - 3 - 2 + 1", 5);
        saysOf("2 * - 3 * 4", -24);
        saysOf("-(2 - 3) * 4", 4);
        saysOf("-2 - -3", 1);
    }

    private static void wrapping() {
        sentence("An E is an int (32 bits, wrapping)");
        String most = "(8192*8192*32-1)";
        saysOf("8192*8192*31+8192*8191+8191", Integer.MAX_VALUE);
        saysOf(most, Integer.MAX_VALUE);
        saysOf(most + "+1", Integer.MIN_VALUE);
        saysOf("-" + most + "-1", Integer.MIN_VALUE);
        saysOf("-" + most + "-2", Integer.MAX_VALUE);
        saysOf("8192*8192*32", Integer.MIN_VALUE);
        saysOf("-(8192*8192*32)", Integer.MIN_VALUE);
        saysOf("8192*8192*64", 0);
        saysOf("8192*8192*64+5", 5);
        saysOf(most + "*2", -2);
        saysOf(most + "<" + most + "+1", 0);
        saysOf("8192*8192*32=-(8192*8192*32)", 1);
        saysOf("not 8192*8192*64", 1);
        saysOf("9999*9999*9999", (int) (9999L * 9999L * 9999L));
    }

    private static void names() {
        sentence("Of a HORSE: strength; lead: LEAD; won; place (0, if there is none); age; ground (its own, if there is none)");
        saysOf("strength", 70);
        saysOf("lead", 11);
        saysOf("won", 0);
        saysOf("place", 0);
        saysOf("age", 5);
        saysOf("ground", 3);
        sentence("Of a HORSE behind a RACE: won (that one, too); place (from 0); ground of the RACE; lead");
        AtThePost x = withHorses(50, 50, 50, 50, 50);
        ruledBy(x, "next won*16+place*8+ground*2+lead;hold won;say won*10+ground;");
        bearing(x, 1, 0, 1, 0, 1);
        x.race(200, 104321, 1);
        due("the winner's", x.told(0, 5), 16 + 4 + 1);
        due("the second's", x.told(4, 5), 8 + 4 + 1);
        due("the third's", x.told(3, 5), 16 + 4);
        due("the fourth's", x.told(2, 5), 24 + 4 + 1);
        due("the last one's", x.told(1, 5), 32 + 4);
        x.race(100, 101, 0);
        due("no lead anew", x.told(0, 5), 21);
        due("hold, won twice", x.told(0, 8), 2);
        due("say, won twice, its own ground", x.told(0, 9), 20);
        bearing(x, 0, 0);
        x.race(0, 101, 1);
        due("won three times", x.told(0, 5), 48);
        due("won never", x.told(1, 5), 8);
    }

    /** The lead that a winner has next by an E, told by a race and by a season. */
    private static void nextOf(String e, int want) {
        AtThePost x = withHorses(50, 50);
        x.set(0, 2, 30);
        ruledBy(x, "next " + e + ";hold 2;say 3;");
        due("season's lead by " + e, x.season(1, 1, 0, 0, 1), want);
        x.race(0, 101, 1);
        due("race's lead by " + e, x.told(0, 5), want);
    }

    private static void nextBounds() {
        sentence("next: its next LEAD (0 .. 60, else the bound)");
        nextOf("0", 0);
        nextOf("-1", 0);
        nextOf("1", 1);
        nextOf("59", 59);
        nextOf("60", 60);
        nextOf("61", 60);
        nextOf("lead-30", 0);
        nextOf("lead-31", 0);
        nextOf("lead+30", 60);
        nextOf("lead+31", 60);
        nextOf("9999", 60);
        nextOf("8192*8192*32", 0);
        nextOf("8192*8192*32-1", 60);
        nextOf("8192*8192*64+7", 7);
    }

    private static void holdOf(String e, int want) {
        AtThePost x = withHorses(50, 99);
        ruledBy(x, "next 0;hold " + e + ";say 3;");
        due("told(0, 8) by " + e, x.told(0, 8), want);
        // It can't win, so held back is better only where it costs nothing; then both come to nothing.
        due("holding by " + e, x.holding(3, 0, 0, 5, 0), want == 0 ? 0 : 1);
    }

    private static void holdBounds() {
        sentence("hold: what holding back costs (0 .. 999, else the bound; ahead of any RACE)");
        holdOf("0", 0);
        holdOf("-1", 0);
        holdOf("1", 1);
        holdOf("998", 998);
        holdOf("999", 999);
        holdOf("1000", 999);
        holdOf("9999", 999);
        holdOf("8192*8192*32", 0);
        holdOf("8192*8192*32-1", 999);
        holdOf("place", 0);
        holdOf("place+ground+won", 0);
    }

    private static void sayBounds() {
        sentence("say: what is said of it (ahead of any RACE)");
        saysOf("9999*9999", 99980001);
        saysOf("-9999*9999", -99980001);
        saysOf("-1000*1000", -1000000);
    }
}
