import java.util.Arrays;

/**
 * Horses at the post together: what leads in their cloths are worth, how likely each is to win, the
 * races that were told, and leads anew by a rule in a text. README.md says how it is used.
 *
 * <p>Every answer is reckoned in rows that the constructor makes, so that calls make next to nothing.
 */
public final class AtThePost {
    public static final int NONE = -1, BAD = -2, STATE = -3, FULL = -4;
    public static final long NO = -4611686018427387904L;

    private static final int NOTHING_THERE = -11, OUTSIDE = -12, OTHER_SORT = -13, SIZE_BELOW_ZERO = -14;
    private static final int NOT_TOLD = -1000000, NO_SUCH_RACE = -5, FIRST_FAULT = -100;

    private static final int GROUNDS = 4, MOST_POUND = 9, FIRST_POUND = 2, MOST_SPREAD = 3, FIRST_SPREAD = 1;
    private static final int MOST_HORSES = 10, MOST_IN_FIELD = 5, MOST_STRENGTH = 99, MOST_LEAD = 60;
    private static final int LEAST_AGE = 2, MOST_AGE = 12, MOST_NUMBER = 20;
    private static final int DAYS = 100, MOST_RACES = 24, MOST_TEXTS = 6, MOST_BYTES = 160;
    private static final int SHEETS = 4, SORTS = 3, MOST_ITEMS = 40, ITEMS_OF_A_HORSE = 3;
    private static final int MOST_TURNS = 40;
    private static final int LAST_HOLDING_DAY = 5, MOST_PRIZE = 999, EARLY_PRIZE = 10, MOST_HOLD = 999;
    private static final int LEAD_BY_WIN = 4, LEAD_BY_DEFEAT = -2;
    private static final int MOST_SEED = 99999, MOST_IN_SEASON = 12;
    private static final long LOT_FACTOR = 48271L, LOT_MODULUS = 2147483647L;
    private static final int YARDS_OF_ONE = 3;

    /** Divides by 1 to 5 without a rest, so that a win that several share is never cut. */
    private static final int WHOLE_WIN = 60;

    private static final String FIRST_RULE = "next lead + 3 - place ; hold 2 ; say strength - lead ;";

    // Tokens of a text; operators stand for themselves in what is read from it, numbers stand there as
    // they are, so everything else is below 0.
    private static final int STRENGTH = -1, LEAD = -2, WON = -3, PLACE = -4, AGE = -5, GROUND = -6;
    private static final int NAMES = 6;
    private static final int NEXT = -11, HOLD = -12, SAY = -13, OR = -14, AND = -15, NOT = -16;
    private static final int PLUS = -21, MINUS = -22, TIMES = -23, LESS = -24, SAME = -25, NEGATED = -26;
    private static final int OPEN = -31, CLOSE = -32, SEMICOLON = -33, DIGITS = -34, END = -35, WRONG = -36;

    private static final int NEXT_PART = 0, HOLD_PART = 1, SAY_PART = 2, PARTS = 3;

    private final Horse[] stable = new Horse[MOST_HORSES];
    private int horseCount = 0;
    private final int[] pounds = new int[GROUNDS];
    private int spread = FIRST_SPREAD;
    private final Race[] races = new Race[MOST_RACES];
    private int raceCount = 0;
    private final Tape tape = new Tape();
    private final Reader reader = new Reader(tape);
    private final Text[] texts = new Text[MOST_TEXTS];
    private int textCount = 0;
    private int rule = 0;
    private final Sheet[] sheets = new Sheet[SHEETS];
    private final Image kept = new Image();

    // Rows that calls reckon in; nothing in them outlasts a call.
    private final Chances chances = new Chances();
    private final int[] nameValues = new int[NAMES];
    private final int[] placed = new int[MOST_IN_FIELD];
    private final int[] trialLeads = new int[MOST_HORSES];
    private final int[] trialWins = new int[MOST_HORSES];
    private final int[] trialRuns = new int[MOST_HORSES];

    public AtThePost() {
        Arrays.fill(pounds, FIRST_POUND);
        for (int i = 0; i < FIRST_RULE.length(); i++) {
            tape.append(FIRST_RULE.charAt(i));
        }
        texts[0] = reader.read();
        textCount = 1;
        tape.clear();
    }

    // ---- horses

    public int horse(int kind, int strength, int rest) {
        if (!isHorseToBe(kind, strength, rest)) {
            return BAD;
        }
        if (horseCount >= MOST_HORSES) {
            return FULL;
        }
        stable[horseCount] = new Horse(kind, strength, rest / 1000, rest % 1000 / 10, rest % 10);
        horseCount++;
        return horseCount - 1;
    }

    public int set(int horse, int what, int v) {
        Horse one = horseAt(horse);
        if (one == null) {
            return BAD;
        }
        int was = BAD;
        if (what == 0 && isWithin(v, 0, MOST_STRENGTH)) {
            was = one.strength;
            one.strength = v;
        } else if (what == 1 && isWithin(v, LEAST_AGE, MOST_AGE)) {
            was = one.age;
            one.age = v;
        } else if (what == 2 && isWithin(v, 0, MOST_LEAD)) {
            was = one.lead;
            one.lead = v;
        }
        return was;
    }

    public int pound(int ground, int v) {
        int was = BAD;
        if (isGround(ground) && isWithin(v, 0, MOST_POUND)) {
            was = pounds[ground];
            pounds[ground] = v;
        } else if (ground == GROUNDS && isWithin(v, 0, MOST_SPREAD)) {
            was = spread;
            spread = v;
        }
        return was;
    }

    public long form(int horse, int ground, int day) {
        if (!isHorse(horse) || !isGround(ground) || !isWithin(day, 0, DAYS - 1)) {
            return NO;
        }
        return formOf(horse, ground, day);
    }

    public int told(int horse, int what) {
        Horse one = horseAt(horse);
        if (one == null) {
            return NOT_TOLD;
        }
        switch (what) {
            case 0: return one.kind;
            case 1: return one.strength;
            case 2: return one.age;
            case 3: return one.number;
            case 4: return one.homeGround;
            case 5: return one.lead;
            case 6: return racesWon(horse);
            case 7: return racesRun(horse);
            case 8: return holdCost(horse, one.lead);
            case 9: return ruledAhead(SAY_PART, horse, one.lead);
            default: return NOT_TOLD;
        }
    }

    // ---- chances (when: 100 times GROUND, and DAY)

    public long wins(int field, int when, int horse, int part) {
        if (!isField(field) || !isWhen(when) || !isIn(field, horse) || !isPart(part)) {
            return NO;
        }
        enter(field, when);
        return inLowestTerms(chances.shareOf(horse), WHOLE_WIN * chances.cases(), part);
    }

    public long comes(int field, int when, int order, int part) {
        if (!isField(field) || !isWhen(when) || readOrder(order) != field || !isPart(part)) {
            return NO;
        }
        enter(field, when);
        return inLowestTerms(chances.casesInOrder(placed), chances.cases(), part);
    }

    public long worse(int field, int when, int horse, int many, int part) {
        if (!isField(field) || !isWhen(when) || !isIn(field, horse)
                || !isWithin(many, 1, MOST_IN_FIELD - 1) || !isPart(part)) {
            return NO;
        }
        enter(field, when);
        return inLowestTerms(chances.casesBehind(horse, many), chances.cases(), part);
    }

    public long even(int field, int when, int part) {
        if (!isField(field) || !isWhen(when) || !isPart(part)) {
            return NO;
        }
        enter(field, when);
        chances.shareOut();
        return inLowestTerms(chances.gap(), WHOLE_WIN * chances.cases(), part);
    }

    public long near(int field, int when, int what) {
        boolean asksForLead = what >= 10 && isIn(field, what - 10);
        if (!isField(field) || !isWhen(when) || !(asksForLead || isWithin(what, 0, 2))) {
            return NO;
        }
        int turns = balance(field, when);
        if (what == 0) {
            return turns;
        }
        if (asksForLead) {
            return trialLeads[what - 10];
        }
        return inLowestTerms(chances.gap(), WHOLE_WIN * chances.cases(), what - 1);
    }

    public int lay(int field, int when) {
        if (!isField(field) || !isWhen(when)) {
            return BAD;
        }
        int turns = balance(field, when);
        for (int h = 0; h < horseCount; h++) {
            Horse one = horseAt(h);
            if (one != null) {
                one.lead = trialLeads[h];
            }
        }
        return turns;
    }

    // ---- texts

    public int feed(int n, long bytes) {
        if (!isWithin(n, 1, 8)) {
            return BAD;
        }
        if (tape.size + n > MOST_BYTES) {
            return FULL;
        }
        for (int i = 0; i < n; i++) {
            tape.append((int) (bytes >> 8 * i & 255));
        }
        return tape.size;
    }

    public int text() {
        if (textCount >= MOST_TEXTS) {
            return FULL;
        }
        Text read = reader.read();
        int fault = tape.start;
        tape.clear();
        if (read == null) {
            return FIRST_FAULT - fault;
        }
        texts[textCount] = read;
        textCount++;
        return textCount - 1;
    }

    public int force(int text) {
        if (!isWithin(text, 0, textCount - 1)) {
            return BAD;
        }
        int was = rule;
        rule = text;
        return was;
    }

    // ---- races

    public int race(int when, int order, int anew) {
        int size = Integer.bitCount(readOrder(order));
        if (!isWhen(when) || size < 2 || !isWithin(anew, 0, 1) || when % DAYS < lastDay()) {
            return BAD;
        }
        if (raceCount >= MOST_RACES) {
            return FULL;
        }
        Race run = new Race(when / DAYS, when % DAYS, size);
        for (int place = 0; place < size; place++) {
            run.order[place] = placed[place];
            run.leads[place] = leadOf(placed[place]);
        }
        races[raceCount] = run;
        raceCount++;
        if (anew == 1) {
            leadAnew(run);
        }
        return raceCount - 1;
    }

    public int raceTold(int race, int what) {
        Race run = raceAt(race);
        if (run == null) {
            return NO_SUCH_RACE;
        }
        if (what == 0) {
            return run.ground;
        }
        if (what == 1) {
            return run.day;
        }
        if (what == 2) {
            return run.size;
        }
        if (isWithin(what, 3, run.size + 2)) {
            return run.order[what - 3];
        }
        if (isWithin(what, 8, run.size + 7)) {
            return run.leads[what - 8];
        }
        return NO_SUCH_RACE;
    }

    public int against(int ground, int pound) {
        if (!isGround(ground) || !isWithin(pound, 0, MOST_POUND)) {
            return BAD;
        }
        return pairsAgainst(ground, pound);
    }

    public int learnt(int ground) {
        if (!isGround(ground)) {
            return BAD;
        }
        int best = 0;
        int fewest = pairsAgainst(ground, 0);
        for (int pound = 1; pound <= MOST_POUND; pound++) {
            int pairs = pairsAgainst(ground, pound);
            if (pairs < fewest) {
                fewest = pairs;
                best = pound;
            }
        }
        return best;
    }

    public int pair(int a, int b, int what) {
        if (!isHorse(a) || !isHorse(b) || a == b || !isWithin(what, 0, 2)) {
            return BAD;
        }
        int counted = 0;
        for (int r = 0; r < raceCount; r++) {
            if (countsForPair(raceAt(r), a, b, what)) {
                counted++;
            }
        }
        return counted;
    }

    public long holding(int field, int when, int horse, int prize, int what) {
        if (!isField(field) || !isWhen(when) || when % DAYS > LAST_HOLDING_DAY || !isIn(field, horse)
                || !isWithin(prize, 0, MOST_PRIZE) || !isWithin(what, 0, 1)) {
            return NO;
        }
        int best = 0;
        int most = gainOf(field, when, horse, prize, 0);
        for (int days = 1; days < 2 << when % DAYS; days++) {
            int gain = gainOf(field, when, horse, prize, days);
            if (gain > most) {
                most = gain;
                best = days;
            }
        }
        return what == 0 ? best : most;
    }

    public int yards(int field, int ground, int horse) {
        if (!isField(field) || !isGround(ground) || !isIn(field, horse)) {
            return BAD;
        }
        int least = worthOf(leadOf(horse), ground);
        for (int h = 0; h < horseCount; h++) {
            if (isIn(field, h)) {
                least = Math.min(least, worthOf(leadOf(h), ground));
            }
        }
        return (worthOf(leadOf(horse), ground) - least) * YARDS_OF_ONE;
    }

    public int season(int field, int when, int seed, int horse, int what) {
        if (!isField(field) || !isWhen(when) || !isWithin(when % DAYS, 1, MOST_IN_SEASON)
                || !isWithin(seed, 0, MOST_SEED) || !isHorse(horse) || !isWithin(what, 0, 1)) {
            return BAD;
        }
        // One outside the field may be asked for too: it never wins and keeps the lead that is taken here.
        takeLeads();
        Arrays.fill(trialWins, 0);
        long lot = seed + 1;
        for (int day = 0; day < when % DAYS; day++) {
            lot = drawRuns(field, when / DAYS, day, lot);
            settleRuns(field, when / DAYS);
        }
        return what == 0 ? trialWins[horse] : trialLeads[horse];
    }

    public int image() {
        kept.isKept = true;
        kept.horseCount = horseCount;
        kept.raceCount = raceCount;
        kept.rule = rule;
        kept.spread = spread;
        System.arraycopy(pounds, 0, kept.pounds, 0, GROUNDS);
        for (int h = 0; h < horseCount; h++) {
            kept.take(h, horseAt(h));
        }
        return raceCount;
    }

    public int back() {
        if (!kept.isKept) {
            return STATE;
        }
        raceCount = kept.raceCount;
        rule = kept.rule;
        spread = kept.spread;
        System.arraycopy(kept.pounds, 0, pounds, 0, GROUNDS);
        for (int h = 0; h < kept.horseCount; h++) {
            kept.giveBack(h, horseAt(h));
        }
        return raceCount;
    }

    public int count(int what) {
        switch (what) {
            case 0: return horseCount;
            case 1: return raceCount;
            case 2: return textCount;
            case 3: return tape.size;
            case 4: return rule;
            case 5: return spread;
            case 6: return sumOfLeads();
            default: return BAD;
        }
    }

    // ---- the host

    public int sheet(int sheet, int sort, int n) {
        if (!isSheet(sheet) || !isWithin(sort, NONE, SORTS - 1)) {
            return BAD;
        }
        if (sort == NONE) {
            sheets[sheet] = null;
            return 1;
        }
        if (n > MOST_ITEMS) {
            return BAD;
        }
        if (n < 0) {
            return SIZE_BELOW_ZERO;
        }
        sheets[sheet] = new Sheet(sort, n);
        return 1;
    }

    public int cell(int sheet, int i, int v) {
        if (!isSheet(sheet)) {
            return BAD;
        }
        Sheet row = sheets[sheet];
        if (row == null) {
            return NOTHING_THERE;
        }
        if (!isWithin(i, 0, row.items.length - 1)) {
            return OUTSIDE;
        }
        row.items[i] = row.narrowed(v);
        return 1;
    }

    public int copy(int sheet, int i, int other, int j, int n) {
        if (!isSheet(sheet) || !isSheet(other)) {
            return BAD;
        }
        Sheet from = sheets[sheet];
        Sheet to = sheets[other];
        if (from == null || to == null) {
            return NOTHING_THERE;
        }
        if (from.sort != to.sort) {
            return OTHER_SORT;
        }
        if (!from.hasStretch(i, n) || !to.hasStretch(j, n)) {
            return OUTSIDE;
        }
        System.arraycopy(from.items, i, to.items, j, n);
        return n;
    }

    public int horses(int sheet, int sort, int from, int n) {
        if (!isSheet(sheet) || !isWithin(sort, 0, SORTS - 1) || !isWithin(n, 0, MOST_HORSES)) {
            return BAD;
        }
        Sheet row = sheets[sheet];
        if (row == null) {
            return NOTHING_THERE;
        }
        if (row.sort != sort) {
            return OTHER_SORT;
        }
        int came = 0;
        int i = from;
        for (int one = 0; one < n; one++) {
            if (!row.hasStretch(i, ITEMS_OF_A_HORSE)) {
                return OUTSIDE;
            }
            if (horse(row.items[i], row.items[i + 1], row.items[i + 2]) >= 0) {
                came++;
            }
            i += ITEMS_OF_A_HORSE;
        }
        return came;
    }

    public int taken(int horse, int k) {
        if (!Horse.isKind(k)) {
            return BAD;
        }
        Horse one = horseAt(horse);
        if (one == null) {
            return NOTHING_THERE;
        }
        return one.isOfKind(k) ? one.number : OTHER_SORT;
    }

    // ---- what is such

    private static boolean isWithin(int v, int least, int most) {
        return v >= least && v <= most;
    }

    private static int bounded(int v, int least, int most) {
        return Math.max(least, Math.min(most, v));
    }

    private static boolean isGround(int ground) {
        return isWithin(ground, 0, GROUNDS - 1);
    }

    private static boolean isWhen(int when) {
        return isWithin(when, 0, GROUNDS * DAYS - 1);
    }

    private static boolean isPart(int part) {
        return isWithin(part, 0, 1);
    }

    private static boolean isSheet(int sheet) {
        return isWithin(sheet, 0, SHEETS - 1);
    }

    private static boolean isHorseToBe(int kind, int strength, int rest) {
        return Horse.isKind(kind) && isWithin(strength, 0, MOST_STRENGTH)
                && isWithin(rest / 1000, LEAST_AGE, MOST_AGE)
                && isWithin(rest % 1000 / 10, 0, MOST_NUMBER) && isGround(rest % 10);
    }

    private boolean isHorse(int horse) {
        return isWithin(horse, 0, horseCount - 1);
    }

    private boolean isField(int field) {
        return isWithin(field, 1, (1 << horseCount) - 1) && Integer.bitCount(field) <= MOST_IN_FIELD;
    }

    private boolean isIn(int field, int horse) {
        return isHorse(horse) && (field >> horse & 1) == 1;
    }

    private Horse horseAt(int horse) {
        return horse >= 0 && horse < horseCount ? stable[horse] : null;
    }

    private Race raceAt(int race) {
        return isWithin(race, 0, raceCount - 1) ? races[race] : null;
    }

    /** The field that an order is of, which then stands in the row of those placed; 0 if it is no order. */
    private int readOrder(int order) {
        int size = digitsBehindOne(order);
        int field = 0;
        int rest = order;
        for (int place = size - 1; place >= 0; place--) {
            int horse = rest % 10;
            if (!isHorse(horse) || isIn(field, horse)) {
                return 0;
            }
            field |= 1 << horse;
            placed[place] = horse;
            rest /= 10;
        }
        return field;
    }

    private static int digitsBehindOne(int order) {
        int least = 10;
        for (int digits = 1; digits <= MOST_IN_FIELD; digits++) {
            if (isWithin(order, least, 2 * least - 1)) {
                return digits;
            }
            least *= 10;
        }
        return 0;
    }

    // ---- forms and leads

    private int formOf(int horse, int ground, int day) {
        Horse one = horseAt(horse);
        return one == null ? 0 : one.formOn(ground, day);
    }

    private int leadOf(int horse) {
        Horse one = horseAt(horse);
        return one == null ? 0 : one.lead;
    }

    private int worthOf(int lead, int ground) {
        return isGround(ground) ? lead * pounds[ground] / 10 : 0;
    }

    private int ratingOf(int horse, int lead, int ground, int day) {
        return formOf(horse, ground, day) - worthOf(lead, ground);
    }

    private int sumOfLeads() {
        int sum = 0;
        for (int h = 0; h < horseCount; h++) {
            sum += leadOf(h);
        }
        return sum;
    }

    private void takeLeads() {
        for (int h = 0; h < horseCount; h++) {
            trialLeads[h] = leadOf(h);
        }
    }

    // ---- chances

    /** Puts a field to the post with leads as they are. */
    private void enter(int field, int when) {
        takeLeads();
        chances.field = field;
        chances.spread = spread;
        for (int h = 0; h < horseCount; h++) {
            weigh(h, when);
        }
    }

    private void weigh(int horse, int when) {
        chances.bases[horse] = ratingOf(horse, trialLeads[horse], when / DAYS, when % DAYS);
    }

    /** Puts more and more lead on the likeliest, in the trial leads alone: how many turns it took. */
    private int balance(int field, int when) {
        enter(field, when);
        chances.shareOut();
        for (int turn = 0; turn < MOST_TURNS; turn++) {
            int gap = chances.gap();
            int likeliest = chances.likeliest();
            if (trialLeads[likeliest] >= MOST_LEAD) {
                return turn;
            }
            addLead(likeliest, 1, when);
            if (chances.gap() >= gap) {
                addLead(likeliest, -1, when);
                return turn;
            }
        }
        return MOST_TURNS;
    }

    private void addLead(int horse, int more, int when) {
        trialLeads[horse] += more;
        weigh(horse, when);
        chances.shareOut();
    }

    private static long inLowestTerms(int above, int below, int part) {
        int divisor = commonDivisor(above, below);
        if (divisor < 1) {
            return NO;
        }
        return (part == 0 ? above : below) / divisor;
    }

    private static int commonDivisor(int a, int b) {
        int big = a;
        int small = b;
        // Euclid's way is through in fewer turns than an int has bits, twice over.
        for (int turn = 0; turn < 64 && small != 0; turn++) {
            int rest = big % small;
            big = small;
            small = rest;
        }
        return big;
    }

    // ---- what the rule says

    private int ruled(int part, int horse, int lead, int won, int place, int ground) {
        Horse one = horseAt(horse);
        Text text = isWithin(rule, 0, textCount - 1) ? texts[rule] : null;
        if (one == null || text == null) {
            return 0;
        }
        nameValues[-1 - STRENGTH] = one.strength;
        nameValues[-1 - LEAD] = lead;
        nameValues[-1 - WON] = won;
        nameValues[-1 - PLACE] = place;
        nameValues[-1 - AGE] = one.age;
        nameValues[-1 - GROUND] = ground == NONE ? one.homeGround : ground;
        return text.valueOf(part, nameValues);
    }

    private int ruledAhead(int part, int horse, int lead) {
        return ruled(part, horse, lead, racesWon(horse), 0, NONE);
    }

    private int holdCost(int horse, int lead) {
        return bounded(ruledAhead(HOLD_PART, horse, lead), 0, MOST_HOLD);
    }

    private int nextLead(int horse, int lead, int won, int place, int ground) {
        return bounded(ruled(NEXT_PART, horse, lead, won, place, ground), 0, MOST_LEAD);
    }

    // ---- races that were told

    private int lastDay() {
        Race last = raceAt(raceCount - 1);
        return last == null ? 0 : last.day;
    }

    private void leadAnew(Race run) {
        for (int place = 0; place < run.size; place++) {
            int horse = run.order[place];
            Horse one = horseAt(horse);
            if (one != null) {
                one.lead = nextLead(horse, one.lead, racesWon(horse), place, run.ground);
            }
        }
    }

    private int racesWon(int horse) {
        int won = 0;
        for (int r = 0; r < raceCount; r++) {
            Race run = raceAt(r);
            if (run != null && run.placeOf(horse) == 0) {
                won++;
            }
        }
        return won;
    }

    private int racesRun(int horse) {
        int ran = 0;
        for (int r = 0; r < raceCount; r++) {
            Race run = raceAt(r);
            if (run != null && run.placeOf(horse) != NONE) {
                ran++;
            }
        }
        return ran;
    }

    private int pairsAgainst(int ground, int pound) {
        int pairs = 0;
        for (int r = 0; r < raceCount; r++) {
            Race run = raceAt(r);
            if (run != null && run.ground == ground) {
                pairs += pairsAgainstIn(run, pound);
            }
        }
        return pairs;
    }

    private int pairsAgainstIn(Race run, int pound) {
        int pairs = 0;
        for (int ahead = 0; ahead < run.size; ahead++) {
            for (int behind = ahead + 1; behind < run.size; behind++) {
                if (ratingIn(run, behind, pound) > ratingIn(run, ahead, pound)) {
                    pairs++;
                }
            }
        }
        return pairs;
    }

    private int ratingIn(Race run, int place, int pound) {
        return formOf(run.order[place], run.ground, run.day) - run.leads[place] * pound / 10;
    }

    private boolean countsForPair(Race run, int a, int b, int what) {
        if (run == null) {
            return false;
        }
        int placeOfA = run.placeOf(a);
        int placeOfB = run.placeOf(b);
        if (placeOfA == NONE || placeOfB == NONE) {
            return false;
        }
        if (what == 0) {
            return true;
        }
        if (what == 1) {
            return placeOfA < placeOfB;
        }
        int pound = isGround(run.ground) ? pounds[run.ground] : 0;
        return ratingIn(run, placeOfA, pound) > ratingIn(run, placeOfB, pound);
    }

    // ---- holding back

    /** What the told days (bits) on which a horse is let come to; the last day and the ground are in when. */
    private int gainOf(int field, int when, int horse, int prize, int days) {
        int ground = when / DAYS;
        int last = when % DAYS;
        int lead = leadOf(horse);
        int gain = 0;
        for (int day = 0; day <= last; day++) {
            boolean isLet = (days >> day & 1) == 1;
            boolean won = isLet && beatsOthers(field, horse, lead, ground, day);
            if (won) {
                gain += day == last ? prize : EARLY_PRIZE;
            }
            if (!isLet) {
                gain -= holdCost(horse, lead);
            }
            lead = bounded(lead + (won ? LEAD_BY_WIN : LEAD_BY_DEFEAT), 0, MOST_LEAD);
        }
        return gain;
    }

    private boolean beatsOthers(int field, int horse, int lead, int ground, int day) {
        int rating = ratingOf(horse, lead, ground, day);
        for (int h = 0; h < horseCount; h++) {
            if (h != horse && isIn(field, h) && ratingOf(h, leadOf(h), ground, day) >= rating) {
                return false;
            }
        }
        return true;
    }

    // ---- seasons

    /** Each of the field runs by its own lot: the last lot drawn. */
    private long drawRuns(int field, int ground, int day, long lot) {
        long drawn = lot;
        for (int h = 0; h < horseCount; h++) {
            if (isIn(field, h)) {
                drawn = drawn * LOT_FACTOR % LOT_MODULUS;
                int varied = (int) (drawn % (2 * spread + 1)) - spread;
                trialRuns[h] = ratingOf(h, trialLeads[h], ground, day) + varied;
            }
        }
        return drawn;
    }

    private void settleRuns(int field, int ground) {
        for (int h = 0; h < horseCount; h++) {
            if (isIn(field, h)) {
                int place = placeByRun(field, h);
                if (place == 0) {
                    trialWins[h]++;
                }
                int won = racesWon(h) + trialWins[h];
                trialLeads[h] = nextLead(h, trialLeads[h], won, place, ground);
            }
        }
    }

    private int placeByRun(int field, int horse) {
        int place = 0;
        for (int h = 0; h < horseCount; h++) {
            if (isIn(field, h) && (trialRuns[h] > trialRuns[horse]
                    || trialRuns[h] == trialRuns[horse] && h < horse)) {
                place++;
            }
        }
        return place;
    }

    // ---- classes

    private static final class Horse {
        private static final int PLAIN = 0, HELD = 1, PICKY = 2, YOUNG = 3, SLY = 4, OLD = 5;
        /** Which kind each kind is under. */
        private static final int[] ABOVE = {NONE, PLAIN, PLAIN, PLAIN, HELD, YOUNG};
        private static final int GROWN_UP = 6, SLY_DAYS = 7;

        private final int kind;
        private final int number;
        private final int homeGround;
        private int strength;
        private int age;
        private int lead = 0;

        Horse(int kind, int strength, int age, int number, int homeGround) {
            this.kind = kind;
            this.strength = strength;
            this.age = age;
            this.number = number;
            this.homeGround = homeGround;
        }

        static boolean isKind(int kind) {
            return kind >= 0 && kind < ABOVE.length;
        }

        boolean isOfKind(int wanted) {
            int one = kind;
            for (int step = 0; step < ABOVE.length && isKind(one); step++) {
                if (one == wanted) {
                    return true;
                }
                one = ABOVE[one];
            }
            return false;
        }

        int formOn(int ground, int day) {
            switch (kind) {
                case HELD: return strength - number;
                case PICKY: return ground == homeGround ? strength : strength - number;
                case YOUNG: return strength + promise();
                case SLY: return day % SLY_DAYS == 0 ? strength : strength - number;
                case OLD: return strength + promise() - age;
                default: return strength;
            }
        }

        /** One that is grown up is below no age, so it gains nothing and loses nothing. */
        private int promise() {
            return age < GROWN_UP ? (GROWN_UP - age) * number / 2 : 0;
        }
    }

    private static final class Race {
        private final int ground;
        private final int day;
        private final int size;
        private final int[] order = new int[MOST_IN_FIELD];
        private final int[] leads = new int[MOST_IN_FIELD];

        Race(int ground, int day, int size) {
            this.ground = ground;
            this.day = day;
            this.size = Math.min(size, MOST_IN_FIELD);
        }

        int placeOf(int horse) {
            for (int place = 0; place < size; place++) {
                if (order[place] == horse) {
                    return place;
                }
            }
            return NONE;
        }
    }

    private static final class Image {
        private boolean isKept = false;
        private int horseCount = 0;
        private int raceCount = 0;
        private int rule = 0;
        private int spread = 0;
        private final int[] pounds = new int[GROUNDS];
        private final int[] strengths = new int[MOST_HORSES];
        private final int[] ages = new int[MOST_HORSES];
        private final int[] leads = new int[MOST_HORSES];

        void take(int h, Horse one) {
            if (one != null) {
                strengths[h] = one.strength;
                ages[h] = one.age;
                leads[h] = one.lead;
            }
        }

        void giveBack(int h, Horse one) {
            if (one != null) {
                one.strength = strengths[h];
                one.age = ages[h];
                one.lead = leads[h];
            }
        }
    }

    private static final class Sheet {
        private static final int BYTES = 0, SHORTS = 1;

        private final int sort;
        private final int[] items;

        Sheet(int sort, int n) {
            this.sort = sort;
            this.items = new int[Math.max(0, n)];
        }

        int narrowed(int v) {
            if (sort == BYTES) {
                return (byte) v;
            }
            return sort == SHORTS ? (short) v : v;
        }

        /** Told by what is left behind i, so that no sum can wrap. */
        boolean hasStretch(int i, int n) {
            return i >= 0 && n >= 0 && i <= items.length && n <= items.length - i;
        }
    }

    /**
     * What may happen to a field. As each horse varies by itself, cases are counted by what each may do
     * and never gone through one by one. Rows go by the numbers of horses.
     */
    private static final class Chances {
        private final int[] bases = new int[MOST_HORSES];
        private final int[] shares = new int[MOST_HORSES];
        private final int[] ways = new int[MOST_IN_FIELD];
        private final int[] tails = new int[2 * MOST_SPREAD + 1];
        private final int[] longerTails = new int[2 * MOST_SPREAD + 1];
        private int field = 0;
        private int spread = 0;

        private boolean runs(int h) {
            return (field >> h & 1) == 1;
        }

        private int variants() {
            return 2 * spread + 1;
        }

        int cases() {
            int all = 1;
            for (int h = 0; h < MOST_HORSES; h++) {
                if (runs(h)) {
                    all *= variants();
                }
            }
            return all;
        }

        void shareOut() {
            for (int h = 0; h < MOST_HORSES; h++) {
                if (runs(h)) {
                    shares[h] = shareOf(h);
                }
            }
        }

        int shareOf(int horse) {
            int share = 0;
            for (int varied = -spread; varied <= spread; varied++) {
                countWays(horse, bases[horse] + varied, true);
                for (int others = 0; others < ways.length; others++) {
                    share += ways[others] * (WHOLE_WIN / (others + 1));
                }
            }
            return share;
        }

        int casesBehind(int horse, int many) {
            int behind = 0;
            for (int varied = -spread; varied <= spread; varied++) {
                countWays(horse, bases[horse] + varied, false);
                for (int others = many; others < ways.length; others++) {
                    behind += ways[others];
                }
            }
            return behind;
        }

        /**
         * Counts by how many others it is so: in how many ways just so many run as well as a run and
         * none better (asked for those alike), or else in how many ways just so many run better.
         */
        private void countWays(int horse, int run, boolean alike) {
            Arrays.fill(ways, 0);
            ways[0] = 1;
            for (int h = 0; h < MOST_HORSES; h++) {
                if (h != horse && runs(h)) {
                    int better = bounded(bases[h] + spread - run, 0, variants());
                    int same = Math.abs(bases[h] - run) <= spread ? 1 : 0;
                    if (alike) {
                        addWays(same, variants() - better - same);
                    } else {
                        addWays(better, variants() - better);
                    }
                }
            }
        }

        private void addWays(int counted, int others) {
            for (int k = ways.length - 1; k > 0; k--) {
                ways[k] = ways[k] * others + ways[k - 1] * counted;
            }
            ways[0] *= others;
        }

        /** From the last one on: in how many ways it and those behind it come in so, by how it varies. */
        int casesInOrder(int[] placed) {
            int size = Math.min(Integer.bitCount(field), placed.length);
            Arrays.fill(tails, 1);
            for (int place = size - 2; place >= 0; place--) {
                lengthenTails(bases[placed[place]], bases[placed[place + 1]]);
            }
            int all = 0;
            for (int v = 0; v < variants(); v++) {
                all += tails[v];
            }
            return all;
        }

        private void lengthenTails(int base, int nextBase) {
            for (int v = 0; v < variants(); v++) {
                longerTails[v] = 0;
                for (int w = 0; w < variants(); w++) {
                    if (base + v > nextBase + w) {
                        longerTails[v] += tails[w];
                    }
                }
            }
            System.arraycopy(longerTails, 0, tails, 0, variants());
        }

        int likeliest() {
            int best = NONE;
            for (int h = 0; h < MOST_HORSES; h++) {
                if (runs(h) && (best == NONE || shares[h] > shares[best])) {
                    best = h;
                }
            }
            return Math.max(0, best);
        }

        int gap() {
            int most = 0;
            int least = WHOLE_WIN * cases();
            for (int h = 0; h < MOST_HORSES; h++) {
                if (runs(h)) {
                    most = Math.max(most, shares[h]);
                    least = Math.min(least, shares[h]);
                }
            }
            return most - least;
        }
    }

    /** The bytes that were fed, and the token at hand as they are read. */
    private static final class Tape {
        private static final int MOST_DIGITS = 4;

        private final char[] bytes = new char[MOST_BYTES];
        private int size = 0;
        /** The first byte of the token at hand, and the first one behind it. */
        private int start = 0;
        private int behind = 0;
        private int token = END;
        private int number = 0;

        void append(int one) {
            if (size < bytes.length) {
                bytes[size] = (char) one;
                size++;
            }
        }

        void clear() {
            size = 0;
        }

        void rewind() {
            behind = 0;
            advance();
        }

        void advance() {
            start = behind;
            while (start < size && isBlank(bytes[start])) {
                start++;
            }
            behind = start;
            if (start >= size) {
                token = END;
            } else if (isLetter(bytes[start])) {
                token = readWord();
            } else if (isDigit(bytes[start])) {
                token = readNumber();
            } else {
                token = signOf(bytes[start]);
                behind = start + 1;
            }
        }

        private int readWord() {
            while (behind < size && isLetter(bytes[behind])) {
                behind++;
            }
            if (spells("strength")) return STRENGTH;
            if (spells("lead")) return LEAD;
            if (spells("won")) return WON;
            if (spells("place")) return PLACE;
            if (spells("age")) return AGE;
            if (spells("ground")) return GROUND;
            if (spells("next")) return NEXT;
            if (spells("hold")) return HOLD;
            if (spells("say")) return SAY;
            if (spells("or")) return OR;
            if (spells("and")) return AND;
            if (spells("not")) return NOT;
            return WRONG;
        }

        private boolean spells(String word) {
            if (behind - start != word.length()) {
                return false;
            }
            for (int i = 0; i < word.length(); i++) {
                if (bytes[start + i] != word.charAt(i)) {
                    return false;
                }
            }
            return true;
        }

        private int readNumber() {
            number = 0;
            while (behind < size && isDigit(bytes[behind])) {
                number = number * 10 + (bytes[behind] - '0');
                behind++;
            }
            return behind - start > MOST_DIGITS ? WRONG : DIGITS;
        }

        private static int signOf(char one) {
            switch (one) {
                case '(': return OPEN;
                case ')': return CLOSE;
                case ';': return SEMICOLON;
                case '+': return PLUS;
                case '-': return MINUS;
                case '*': return TIMES;
                case '<': return LESS;
                case '=': return SAME;
                default: return WRONG;
            }
        }

        private static boolean isBlank(char one) {
            return one == 32 || one == 10;
        }

        private static boolean isLetter(char one) {
            return one >= 'a' && one <= 'z';
        }

        private static boolean isDigit(char one) {
            return one >= '0' && one <= '9';
        }
    }

    /**
     * Reads a text off the tape by its grammar, a method for each of the grammar's rules. A method that
     * answers false leaves the tape at the token that can't stand there: the start of that one is the fault.
     */
    private static final class Reader {
        private static final int MOST_OPEN = 5;

        private final Tape tape;
        private final int[] code = new int[MOST_BYTES];
        private final int[] ends = new int[PARTS];
        private int length = 0;

        Reader(Tape tape) {
            this.tape = tape;
        }

        Text read() {
            length = 0;
            tape.rewind();
            if (!readPart(NEXT, NEXT_PART) || !readPart(HOLD, HOLD_PART) || !readPart(SAY, SAY_PART)
                    || tape.token != END) {
                return null;
            }
            return new Text(Arrays.copyOf(code, length), ends);
        }

        private boolean readPart(int key, int part) {
            if (!passes(key) || !readOr(0)) {
                return false;
            }
            ends[part] = length;
            return passes(SEMICOLON);
        }

        private boolean readOr(int open) {
            boolean stands = readAnd(open);
            for (int turn = 0; turn < MOST_BYTES && stands && tape.token == OR; turn++) {
                tape.advance();
                stands = readAnd(open);
                write(OR);
            }
            return stands;
        }

        private boolean readAnd(int open) {
            boolean stands = readNot(open);
            for (int turn = 0; turn < MOST_BYTES && stands && tape.token == AND; turn++) {
                tape.advance();
                stands = readNot(open);
                write(AND);
            }
            return stands;
        }

        private boolean readNot(int open) {
            if (tape.token != NOT) {
                return readCompared(open);
            }
            if (open >= MOST_OPEN) {
                return false;
            }
            tape.advance();
            boolean stands = readNot(open + 1);
            write(NOT);
            return stands;
        }

        private boolean readCompared(int open) {
            if (!readSum(open)) {
                return false;
            }
            int sign = tape.token;
            if (sign != LESS && sign != SAME) {
                return true;
            }
            tape.advance();
            boolean stands = readSum(open);
            write(sign);
            return stands;
        }

        private boolean readSum(int open) {
            boolean stands = readTerm(open);
            for (int turn = 0; turn < MOST_BYTES && stands && (tape.token == PLUS || tape.token == MINUS); turn++) {
                int sign = tape.token;
                tape.advance();
                stands = readTerm(open);
                write(sign);
            }
            return stands;
        }

        private boolean readTerm(int open) {
            boolean stands = readOne(open);
            for (int turn = 0; turn < MOST_BYTES && stands && tape.token == TIMES; turn++) {
                tape.advance();
                stands = readOne(open);
                write(TIMES);
            }
            return stands;
        }

        private boolean readOne(int open) {
            if (tape.token == DIGITS || Text.isName(tape.token)) {
                write(tape.token == DIGITS ? tape.number : tape.token);
                tape.advance();
                return true;
            }
            if (tape.token != MINUS && tape.token != OPEN || open >= MOST_OPEN) {
                return false;
            }
            boolean isBracket = tape.token == OPEN;
            tape.advance();
            if (isBracket) {
                return readOr(open + 1) && passes(CLOSE);
            }
            boolean stands = readOne(open + 1);
            write(NEGATED);
            return stands;
        }

        private boolean passes(int token) {
            if (tape.token != token) {
                return false;
            }
            tape.advance();
            return true;
        }

        private void write(int item) {
            if (length < code.length) {
                code[length] = item;
                length++;
            }
        }
    }

    /** What was read of a text: its three parts one behind the other, each sign behind what it joins. */
    private static final class Text {
        /** Six levels of brackets with at most five waiting values each, and some to spare. */
        private static final int MOST_WAITING = 40;

        private final int[] code;
        private final int[] ends = new int[PARTS];
        private final int[] waiting = new int[MOST_WAITING];
        private int depth = 0;

        Text(int[] code, int[] ends) {
            this.code = code;
            System.arraycopy(ends, 0, this.ends, 0, PARTS);
        }

        static boolean isName(int token) {
            return token < 0 && token >= -NAMES;
        }

        int valueOf(int part, int[] names) {
            depth = 0;
            int from = part == 0 ? 0 : ends[part - 1];
            for (int i = from; i < ends[part] && i < code.length; i++) {
                int item = code[i];
                if (item >= 0) {
                    push(item);
                } else if (isName(item)) {
                    push(names[-1 - item]);
                } else if (item == NOT || item == NEGATED) {
                    push(altered(item, pop()));
                } else {
                    int right = pop();
                    push(joined(item, pop(), right));
                }
            }
            return pop();
        }

        private void push(int v) {
            if (depth < waiting.length) {
                waiting[depth] = v;
                depth++;
            }
        }

        private int pop() {
            if (depth < 1) {
                return 0;
            }
            depth--;
            return waiting[depth];
        }

        private static int altered(int sign, int v) {
            return sign == NEGATED ? -v : truth(v == 0);
        }

        private static int joined(int sign, int left, int right) {
            switch (sign) {
                case PLUS: return left + right;
                case MINUS: return left - right;
                case TIMES: return left * right;
                case LESS: return truth(left < right);
                case SAME: return truth(left == right);
                case AND: return truth(left != 0 && right != 0);
                default: return truth(left != 0 || right != 0);
            }
        }

        private static int truth(boolean so) {
            return so ? 1 : 0;
        }
    }
}
