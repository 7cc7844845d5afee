import java.util.ArrayList;
import java.util.List;
import java.util.Random;

// Long runs of calls, drawn by seeds, on the class and on a plain model of the document that goes through
// every case one by one and reads texts with exceptions; every answer must be the same.
public final class ModelTest {
    private static final long NO = -4611686018427387904L;
    private static final int RUNS = 1500, CALLS = 512;

    // ---- the model

    static final class H {
        int kind, strength, age, number, ground, lead;
    }

    static final class R {
        int ground, day;
        int[] order, leads;
    }

    static final class Fault extends Exception {
        private static final long serialVersionUID = 1L;
        final int place;
        Fault(int place) {
            super(null, null, false, false);
            this.place = place;
        }
    }

    /** Reads and works out a text in one go; a value that nobody asks for is worked out as well. */
    static final class Parse {
        final String s;
        final int[] names;
        int at = 0, tokenAt = 0, open = 0;
        String token = "";
        final int[] values = new int[3];

        Parse(String s, int[] names) {
            this.s = s;
            this.names = names;
        }

        void all() throws Fault {
            step();
            String[] keys = {"next", "hold", "say"};
            for (int i = 0; i < 3; i++) {
                need(keys[i]);
                values[i] = or();
                need(";");
            }
            if (!token.isEmpty()) {
                throw new Fault(tokenAt);
            }
        }

        void step() throws Fault {
            while (at < s.length() && " \n".indexOf(s.charAt(at)) >= 0) {
                at++;
            }
            tokenAt = at;
            String rest = s.substring(at);
            String word = rest.replaceFirst("(?s)^([a-z]+).*$", "$1");
            String digits = rest.replaceFirst("(?s)^([0-9]+).*$", "$1");
            if (rest.isEmpty()) {
                token = "";
            } else if (word.matches("[a-z]+")) {
                token = word;
                if (!" strength lead won place age ground next hold say or and not ".contains(" " + word + " ")) {
                    token = "?";
                }
                at += word.length();
            } else if (digits.matches("[0-9]+")) {
                token = digits.length() > 4 ? "?" : digits;
                at += digits.length();
            } else {
                token = "();+-*<=".indexOf(rest.charAt(0)) < 0 ? "?" : rest.substring(0, 1);
                at++;
            }
        }

        void need(String t) throws Fault {
            if (!token.equals(t)) {
                throw new Fault(tokenAt);
            }
            step();
        }

        void opens() throws Fault {
            if (open == 5) {
                throw new Fault(tokenAt);
            }
            open++;
            step();
        }

        int or() throws Fault {
            int v = and();
            while (token.equals("or")) {
                step();
                int w = and();
                v = v != 0 || w != 0 ? 1 : 0;
            }
            return v;
        }

        int and() throws Fault {
            int v = not();
            while (token.equals("and")) {
                step();
                int w = not();
                v = v != 0 && w != 0 ? 1 : 0;
            }
            return v;
        }

        int not() throws Fault {
            if (token.equals("not")) {
                opens();
                int v = not();
                open--;
                return v == 0 ? 1 : 0;
            }
            int v = sum();
            if (token.equals("<")) {
                step();
                return v < sum() ? 1 : 0;
            }
            if (token.equals("=")) {
                step();
                return v == sum() ? 1 : 0;
            }
            return v;
        }

        int sum() throws Fault {
            int v = term();
            while (token.equals("+") || token.equals("-")) {
                boolean plus = token.equals("+");
                step();
                v = plus ? v + term() : v - term();
            }
            return v;
        }

        int term() throws Fault {
            int v = one();
            while (token.equals("*")) {
                step();
                v *= one();
            }
            return v;
        }

        int one() throws Fault {
            if (token.equals("-")) {
                opens();
                int v = -one();
                open--;
                return v;
            }
            if (token.equals("(")) {
                opens();
                int v = or();
                need(")");
                open--;
                return v;
            }
            if (token.matches("[0-9]+")) {
                int v = Integer.parseInt(token);
                step();
                return v;
            }
            List<String> all = List.of("strength", "lead", "won", "place", "age", "ground");
            int i = all.indexOf(token);
            if (i < 0) {
                throw new Fault(tokenAt);
            }
            step();
            return names[i];
        }
    }

    static final class Model {
        final List<H> hs = new ArrayList<>();
        final List<R> rs = new ArrayList<>();
        final List<String> texts = new ArrayList<>();
        int[] pounds = {2, 2, 2, 2};
        int spread = 1, rule = 0;
        String tape = "";
        final int[][] sheets = new int[4][];
        final int[] sorts = new int[4];
        boolean kept = false;
        int keptRaces, keptSpread, keptRule;
        int[] keptPounds;
        List<int[]> keptHorses;

        Model() {
            texts.add("next lead + 3 - place ; hold 2 ; say strength - lead ;");
        }

        boolean has(int h) {
            return h >= 0 && h < hs.size();
        }

        int horse(int kind, int strength, int rest) {
            H h = new H();
            for (h.age = 2; h.age <= 12; h.age++) {
                for (h.number = 0; h.number <= 20; h.number++) {
                    for (h.ground = 0; h.ground <= 3; h.ground++) {
                        if (h.age * 1000 + h.number * 10 + h.ground == rest
                                && kind >= 0 && kind <= 5 && strength >= 0 && strength <= 99) {
                            if (hs.size() == 10) {
                                return -4;
                            }
                            h.kind = kind;
                            h.strength = strength;
                            hs.add(h);
                            return hs.size() - 1;
                        }
                    }
                }
            }
            return -2;
        }

        int set(int horse, int what, int v) {
            if (!has(horse) || what < 0 || what > 2) {
                return -2;
            }
            int[] least = {0, 2, 0};
            int[] most = {99, 12, 60};
            if (v < least[what] || v > most[what]) {
                return -2;
            }
            H h = hs.get(horse);
            int was = what == 0 ? h.strength : what == 1 ? h.age : h.lead;
            if (what == 0) h.strength = v;
            if (what == 1) h.age = v;
            if (what == 2) h.lead = v;
            return was;
        }

        int pound(int ground, int v) {
            if (ground < 0 || ground > 4 || v < 0 || v > (ground == 4 ? 3 : 9)) {
                return -2;
            }
            int was = ground == 4 ? spread : pounds[ground];
            if (ground == 4) spread = v;
            else pounds[ground] = v;
            return was;
        }

        int f(H h, int ground, int day) {
            int f = h.strength;
            if (h.kind == 1 || h.kind == 2 && ground != h.ground || h.kind == 4 && day % 7 != 0) {
                f -= h.number;
            }
            if ((h.kind == 3 || h.kind == 5) && h.age < 6) {
                f += (6 - h.age) * h.number / 2;
            }
            return h.kind == 5 ? f - h.age : f;
        }

        long form(int horse, int ground, int day) {
            return !has(horse) || ground < 0 || ground > 3 || day < 0 || day > 99 ? NO : f(hs.get(horse), ground, day);
        }

        int won(int h) {
            int n = 0;
            for (R r : rs) {
                if (r.order[0] == h) n++;
            }
            return n;
        }

        int[] eval(int h, int lead, int won, int place, int ground) {
            H one = hs.get(h);
            Parse p = new Parse(texts.get(rule), new int[] {one.strength, lead, won, place, one.age, ground});
            try {
                p.all();
            } catch (Fault e) {
                throw new IllegalStateException(e);
            }
            p.values[0] = Math.max(0, Math.min(60, p.values[0]));
            p.values[1] = Math.max(0, Math.min(999, p.values[1]));
            return p.values;
        }

        int told(int horse, int what) {
            if (!has(horse) || what < 0 || what > 9) {
                return -1000000;
            }
            H h = hs.get(horse);
            int ran = 0;
            for (R r : rs) {
                for (int o : r.order) {
                    if (o == horse) ran++;
                }
            }
            int[] v = eval(horse, h.lead, won(horse), 0, h.ground);
            return new int[] {h.kind, h.strength, h.age, h.number, h.ground, h.lead, won(horse), ran, v[1], v[2]}[what];
        }

        List<Integer> in(int field) {
            List<Integer> in = new ArrayList<>();
            for (int h = 0; h < 32; h++) {
                if ((field >>> h & 1) == 1) in.add(h);
            }
            return in;
        }

        boolean good(int field, int when) {
            List<Integer> in = in(field);
            if (in.isEmpty() || in.size() > 5 || when < 0 || when > 399) return false;
            for (int h : in) {
                if (!has(h)) return false;
            }
            return true;
        }

        int rated(int h, int lead, int when) {
            return f(hs.get(h), when / 100, when % 100) - lead * pounds[when / 100] / 10;
        }

        int[] leads() {
            int[] l = new int[hs.size()];
            for (int h = 0; h < l.length; h++) l[h] = hs.get(h).lead;
            return l;
        }

        /** All cases, each a row of runs in the order of the field. */
        List<int[]> cases(int field, int when, int[] leads) {
            List<int[]> all = new ArrayList<>();
            all.add(new int[0]);
            for (int h : in(field)) {
                List<int[]> more = new ArrayList<>();
                for (int[] row : all) {
                    for (int d = -spread; d <= spread; d++) {
                        int[] longer = java.util.Arrays.copyOf(row, row.length + 1);
                        longer[row.length] = rated(h, leads[h], when) + d;
                        more.add(longer);
                    }
                }
                all = more;
            }
            return all;
        }

        long frac(long a, long b, int part) {
            long g = java.math.BigInteger.valueOf(a).gcd(java.math.BigInteger.valueOf(b)).longValue();
            return part == 0 ? a / g : b / g;
        }

        long[] shares(int field, int when, int[] leads) {
            long[] shares = new long[in(field).size() + 1];
            for (int[] row : cases(field, when, leads)) {
                int best = Integer.MIN_VALUE, same = 0;
                for (int v : row) best = Math.max(best, v);
                for (int v : row) same += v == best ? 1 : 0;
                for (int i = 0; i < row.length; i++) {
                    if (row[i] == best) shares[i] += 60 / same;
                }
                shares[row.length] += 60;
            }
            return shares;
        }

        long wins(int field, int when, int horse, int part) {
            if (!good(field, when) || !in(field).contains(horse) || part < 0 || part > 1) return NO;
            long[] s = shares(field, when, leads());
            return frac(s[in(field).indexOf(horse)], s[s.length - 1], part);
        }

        long comes(int field, int when, int order, int part) {
            if (!good(field, when) || part < 0 || part > 1) return NO;
            List<Integer> in = in(field);
            String digits = Integer.toString(order);
            if (digits.length() != in.size() + 1 || digits.charAt(0) != '1') return NO;
            int seen = 0;
            for (int i = 1; i < digits.length(); i++) seen |= 1 << digits.charAt(i) - '0';
            if (seen != field) return NO;
            int n = 0, all = 0;
            for (int[] row : cases(field, when, leads())) {
                boolean so = true;
                for (int i = 1; i + 1 < digits.length(); i++) {
                    so &= row[in.indexOf(digits.charAt(i) - '0')] > row[in.indexOf(digits.charAt(i + 1) - '0')];
                }
                n += so ? 1 : 0;
                all++;
            }
            return frac(n, all, part);
        }

        long worse(int field, int when, int horse, int many, int part) {
            if (!good(field, when) || !in(field).contains(horse) || many < 1 || many > 4 || part < 0 || part > 1) {
                return NO;
            }
            int n = 0, all = 0, own = in(field).indexOf(horse);
            for (int[] row : cases(field, when, leads())) {
                int better = 0;
                for (int v : row) better += v > row[own] ? 1 : 0;
                n += better >= many ? 1 : 0;
                all++;
            }
            return frac(n, all, part);
        }

        long gap(long[] shares) {
            long most = Long.MIN_VALUE, least = Long.MAX_VALUE;
            for (int i = 0; i + 1 < shares.length; i++) {
                most = Math.max(most, shares[i]);
                least = Math.min(least, shares[i]);
            }
            return most - least;
        }

        long even(int field, int when, int part) {
            if (!good(field, when) || part < 0 || part > 1) return NO;
            long[] s = shares(field, when, leads());
            return frac(gap(s), s[s.length - 1], part);
        }

        int turns(int field, int when, int[] leads) {
            List<Integer> in = in(field);
            int turns = 0;
            while (turns < 40) {
                long[] s = shares(field, when, leads);
                int best = 0;
                for (int i = 1; i < in.size(); i++) {
                    if (s[i] > s[best]) best = i;
                }
                int[] next = leads.clone();
                next[in.get(best)]++;
                if (next[in.get(best)] > 60 || gap(shares(field, when, next)) >= gap(s)) break;
                leads[in.get(best)]++;
                turns++;
            }
            return turns;
        }

        long near(int field, int when, int what) {
            if (!good(field, when) || what < 0 || what > 2 && !(what >= 10 && in(field).contains(what - 10))) return NO;
            int[] l = leads();
            int turns = turns(field, when, l);
            if (what == 0) return turns;
            if (what >= 10) return l[what - 10];
            long[] s = shares(field, when, l);
            return frac(gap(s), s[s.length - 1], what - 1);
        }

        int lay(int field, int when) {
            if (!good(field, when)) return -2;
            int[] l = leads();
            int turns = turns(field, when, l);
            for (int h : in(field)) hs.get(h).lead = l[h];
            return turns;
        }

        int feed(int n, long bytes) {
            if (n < 1 || n > 8) return -2;
            if (tape.length() + n > 160) return -4;
            for (int i = 0; i < n; i++) tape += (char) (bytes >>> 8 * i & 255);
            return tape.length();
        }

        int text() {
            if (texts.size() == 6) return -4;
            String s = tape;
            tape = "";
            try {
                new Parse(s, new int[6]).all();
            } catch (Fault e) {
                return -100 - e.place;
            }
            texts.add(s);
            return texts.size() - 1;
        }

        int force(int text) {
            if (text < 0 || text >= texts.size()) return -2;
            int was = rule;
            rule = text;
            return was;
        }

        int race(int when, int order, int anew) {
            String digits = Integer.toString(order);
            if (when < 0 || when > 399 || anew < 0 || anew > 1 || !digits.matches("1[0-9]{2,5}")) return -2;
            R r = new R();
            r.ground = when / 100;
            r.day = when % 100;
            r.order = new int[digits.length() - 1];
            r.leads = new int[digits.length() - 1];
            for (int i = 0; i < r.order.length; i++) {
                r.order[i] = digits.charAt(i + 1) - '0';
                if (!has(r.order[i]) || digits.indexOf(digits.charAt(i + 1), 1) != i + 1) return -2;
                r.leads[i] = hs.get(r.order[i]).lead;
            }
            if (!rs.isEmpty() && rs.get(rs.size() - 1).day > r.day) return -2;
            if (rs.size() == 24) return -4;
            rs.add(r);
            for (int i = 0; i < r.order.length && anew == 1; i++) {
                int h = r.order[i];
                hs.get(h).lead = eval(h, r.leads[i], won(h), i, r.ground)[0];
            }
            return rs.size() - 1;
        }

        int raceTold(int race, int what) {
            if (race < 0 || race >= rs.size() || what < 0 || what > 12) return -5;
            R r = rs.get(race);
            if (what < 3) return what == 0 ? r.ground : what == 1 ? r.day : r.order.length;
            int place = what < 8 ? what - 3 : what - 8;
            if (place >= r.order.length) return -5;
            return what < 8 ? r.order[place] : r.leads[place];
        }

        int ratedIn(R r, int place, int pound) {
            return f(hs.get(r.order[place]), r.ground, r.day) - r.leads[place] * pound / 10;
        }

        int against(int ground, int pound) {
            if (ground < 0 || ground > 3 || pound < 0 || pound > 9) return -2;
            int n = 0;
            for (R r : rs) {
                for (int i = 0; i < r.order.length && r.ground == ground; i++) {
                    for (int j = 0; j < i; j++) {
                        n += ratedIn(r, i, pound) > ratedIn(r, j, pound) ? 1 : 0;
                    }
                }
            }
            return n;
        }

        int learnt(int ground) {
            if (ground < 0 || ground > 3) return -2;
            int best = 9;
            for (int p = 8; p >= 0; p--) {
                if (against(ground, p) <= against(ground, best)) best = p;
            }
            return best;
        }

        int pair(int a, int b, int what) {
            if (!has(a) || !has(b) || a == b || what < 0 || what > 2) return -2;
            int[] n = new int[3];
            for (R r : rs) {
                int i = -1, j = -1;
                for (int k = 0; k < r.order.length; k++) {
                    if (r.order[k] == a) i = k;
                    if (r.order[k] == b) j = k;
                }
                if (i >= 0 && j >= 0) {
                    n[0]++;
                    n[1] += i < j ? 1 : 0;
                    n[2] += ratedIn(r, i, pounds[r.ground]) > ratedIn(r, j, pounds[r.ground]) ? 1 : 0;
                }
            }
            return n[what];
        }

        /** Value and days of the best way from a day on, days told by the choice made first. */
        long[] best(int field, int when, int horse, int prize, int day, int lead) {
            if (day > when % 100) return new long[] {0, 0};
            int today = when / 100 * 100 + day;
            boolean first = true;
            for (int h : in(field)) {
                first &= h == horse || rated(horse, lead, today) > rated(h, hs.get(h).lead, today);
            }
            long[] held = best(field, when, horse, prize, day + 1, Math.max(0, lead - 2));
            held[0] -= eval(horse, lead, won(horse), 0, hs.get(horse).ground)[1];
            long[] let = best(field, when, horse, prize, day + 1, first ? Math.min(60, lead + 4) : Math.max(0, lead - 2));
            let[0] += first ? (day == when % 100 ? prize : 10) : 0;
            let[1] |= 1L << day;
            return let[0] > held[0] || let[0] == held[0] && let[1] < held[1] ? let : held;
        }

        long holding(int field, int when, int horse, int prize, int what) {
            if (!good(field, when) || when % 100 > 5 || !in(field).contains(horse)
                    || prize < 0 || prize > 999 || what < 0 || what > 1) {
                return NO;
            }
            return best(field, when, horse, prize, 0, hs.get(horse).lead)[1 - what];
        }

        int yards(int field, int ground, int horse) {
            if (ground < 0 || ground > 3 || !good(field, 0) || !in(field).contains(horse)) return -2;
            int most = 0;
            for (int h : in(field)) {
                most = Math.max(most, hs.get(horse).lead * pounds[ground] / 10 - hs.get(h).lead * pounds[ground] / 10);
            }
            return most * 3;
        }

        int season(int field, int when, int seed, int horse, int what) {
            if (!good(field, when) || when % 100 < 1 || when % 100 > 12 || seed < 0 || seed > 99999
                    || horse < 0 || horse >= hs.size() || what < 0 || what > 1) {
                return -2;
            }
            int[] l = leads();
            int[] won = new int[10];
            long lot = seed + 1;
            for (int day = 0; day < when % 100; day++) {
                List<int[]> runs = new ArrayList<>();
                for (int h : in(field)) {
                    lot = lot * 48271 % 2147483647;
                    runs.add(new int[] {rated(h, l[h], when / 100 * 100 + day) + (int) (lot % (2 * spread + 1)) - spread, h});
                }
                runs.sort((a, b) -> b[0] - a[0]);
                won[runs.get(0)[1]]++;
                for (int place = 0; place < runs.size(); place++) {
                    int h = runs.get(place)[1];
                    l[h] = eval(h, l[h], won(h) + won[h], place, when / 100)[0];
                }
            }
            return what == 0 ? won[horse] : l[horse];
        }

        int image() {
            kept = true;
            keptRaces = rs.size();
            keptSpread = spread;
            keptRule = rule;
            keptPounds = pounds.clone();
            keptHorses = new ArrayList<>();
            for (H h : hs) keptHorses.add(new int[] {h.strength, h.age, h.lead});
            return rs.size();
        }

        int back() {
            if (!kept) return -3;
            while (rs.size() > keptRaces) rs.remove(rs.size() - 1);
            spread = keptSpread;
            rule = keptRule;
            pounds = keptPounds.clone();
            for (int h = 0; h < keptHorses.size(); h++) {
                hs.get(h).strength = keptHorses.get(h)[0];
                hs.get(h).age = keptHorses.get(h)[1];
                hs.get(h).lead = keptHorses.get(h)[2];
            }
            return rs.size();
        }

        int count(int what) {
            int sum = 0;
            for (H h : hs) sum += h.lead;
            int[] all = {hs.size(), rs.size(), texts.size(), tape.length(), rule, spread, sum};
            return what < 0 || what > 6 ? -2 : all[what];
        }

        int sheet(int sheet, int sort, int n) {
            if (sheet < 0 || sheet > 3 || sort < -1 || sort > 2 || sort != -1 && n > 40) return -2;
            if (sort != -1 && n < 0) return -14;
            sheets[sheet] = sort == -1 ? null : new int[n];
            sorts[sheet] = sort;
            return 1;
        }

        int cell(int sheet, int i, int v) {
            if (sheet < 0 || sheet > 3) return -2;
            if (sheets[sheet] == null) return -11;
            if (i < 0 || i >= sheets[sheet].length) return -12;
            sheets[sheet][i] = sorts[sheet] == 0 ? (byte) v : sorts[sheet] == 1 ? (short) v : v;
            return 1;
        }

        int copy(int sheet, int i, int other, int j, int n) {
            if (sheet < 0 || sheet > 3 || other < 0 || other > 3) return -2;
            if (sheets[sheet] == null || sheets[other] == null) return -11;
            if (sorts[sheet] != sorts[other]) return -13;
            if (i < 0 || j < 0 || n < 0 || (long) i + n > sheets[sheet].length || (long) j + n > sheets[other].length) {
                return -12;
            }
            int[] were = sheets[sheet].clone();
            for (int k = 0; k < n; k++) sheets[other][j + k] = were[i + k];
            return n;
        }

        int horses(int sheet, int sort, int from, int n) {
            if (sheet < 0 || sheet > 3 || sort < 0 || sort > 2 || n < 0 || n > 10) return -2;
            if (sheets[sheet] == null) return -11;
            if (sorts[sheet] != sort) return -13;
            int came = 0;
            for (int k = 0; k < n; k++) {
                if (from < 0 || (long) from + 3L * k + 2 >= sheets[sheet].length) return -12;
                int at = from + 3 * k;
                came += horse(sheets[sheet][at], sheets[sheet][at + 1], sheets[sheet][at + 2]) >= 0 ? 1 : 0;
            }
            return came;
        }

        int taken(int horse, int k) {
            if (k < 0 || k > 5) return -2;
            if (!has(horse)) return -11;
            String[] lines = {"0", "10", "20", "30", "410", "530"};
            return lines[hs.get(horse).kind].indexOf((char) ('0' + k)) < 0 ? -13 : hs.get(horse).number;
        }
    }

    // ---- the draws

    private final Random random;
    private final Model m = new Model();
    private final AtThePost x = new AtThePost();
    private String call = "";

    private ModelTest(long seed) {
        random = new Random(seed);
    }

    /** Mostly within the bounds, now and then one beside them, seldom far off. */
    private int n(int least, int most) {
        int way = random.nextInt(60);
        if (way == 0) return least - 1;
        if (way == 1) return most + 1;
        if (way == 2) {
            int[] far = {Integer.MIN_VALUE, Integer.MAX_VALUE, -1, 0, 1000, 100000, -100, random.nextInt()};
            return far[random.nextInt(far.length)];
        }
        if (way < 6) return least;
        if (way < 9) return most;
        return least + random.nextInt(Math.max(1, most - least + 1));
    }

    private int aHorse() {
        return n(0, Math.max(0, m.hs.size() - 1));
    }

    private int aField() {
        if (random.nextInt(40) == 0) return n(0, 1023);
        int size = 1 + random.nextInt(5);
        int field = 0;
        for (int i = 0; i < size; i++) field |= 1 << random.nextInt(Math.max(1, m.hs.size()));
        return field;
    }

    private int oneOf(int field) {
        List<Integer> in = m.in(field);
        return in.isEmpty() || random.nextInt(30) == 0 ? aHorse() : in.get(random.nextInt(in.size()));
    }

    private int aWhen() {
        return n(0, 3) * 100 + (random.nextInt(4) == 0 ? 7 * random.nextInt(14) : n(0, 99));
    }

    private int anOrder(int field) {
        if (random.nextInt(40) == 0) return n(0, 200000);
        List<Integer> in = m.in(field);
        java.util.Collections.shuffle(in, random);
        StringBuilder s = new StringBuilder("1");
        for (int h : in) {
            if (h < 10 && s.length() < 9) s.append(h);
        }
        if (random.nextInt(40) == 0) s.append(random.nextInt(10));
        return Integer.parseInt(s.toString());
    }

    private String expression(int depth) {
        String[] ones = {"strength", "lead", "won", "place", "age", "ground"};
        int way = depth <= 0 ? random.nextInt(3) : random.nextInt(12);
        switch (way) {
            case 0: return ones[random.nextInt(6)];
            case 1: return "" + random.nextInt(12);
            case 2: return random.nextInt(4) == 0 ? "" + random.nextInt(10000) : ones[random.nextInt(6)];
            case 3: return "(" + expression(depth - 1) + ")";
            case 4: return "-" + expression(depth - 1);
            case 5: return "not " + expression(depth - 1);
            default:
                String[] signs = {"+", "-", "*", "<", "=", " or ", " and ", "+", "-"};
                return expression(depth - 1) + signs[random.nextInt(9)] + expression(depth - 2);
        }
    }

    private void tapeAText() {
        String s = "next " + expression(2 + random.nextInt(3)) + ";hold " + expression(1 + random.nextInt(3))
                + ";\nsay " + expression(2 + random.nextInt(4)) + ";";
        if (random.nextInt(3) == 0) {
            StringBuilder b = new StringBuilder(s);
            for (int k = 0; k <= random.nextInt(3); k++) {
                int at = random.nextInt(b.length());
                char[] wrong = {'x', '(', ')', ';', '9', ' ', '-', '<', 'A', (char) 200};
                if (random.nextBoolean()) b.setCharAt(at, wrong[random.nextInt(wrong.length)]);
                else if (random.nextBoolean()) b.insert(at, wrong[random.nextInt(wrong.length)]);
                else b.deleteCharAt(at);
            }
            s = b.toString();
        }
        for (int i = 0; i < s.length(); i += 8) {
            int k = Math.min(8, s.length() - i);
            long bytes = k < 8 ? random.nextLong() << 8 * k : 0;
            for (int j = 0; j < k; j++) bytes |= (long) s.charAt(i + j) << 8 * j;
            check("feed", x.feed(k, bytes), m.feed(k, bytes));
        }
        call = "text() of " + s;
        check("text", x.text(), m.text());
    }

    private static int wrong = 0;

    private void check(String name, long got, long want) {
        if (got != want && wrong++ < 20) {
            System.out.println(name + " " + call + " answered " + got + ", due is " + want);
        }
    }

    private String told(Object... args) {
        call = java.util.Arrays.toString(args);
        return call;
    }

    private void drawOne() {
        int f = aField(), w = aWhen(), h = oneOf(f), p = n(0, 1), v = 0, a = 0, b = 0;
        boolean heavy = random.nextInt(8) == 0 || m.spread < 2 || Integer.bitCount(f) < 4;
        switch (random.nextInt(34)) {
            case 0: case 1:
                a = n(0, 5);
                v = n(0, 1) == 0 ? 45 + random.nextInt(12) : n(0, 99);
                b = n(2, 12) * 1000 + n(0, 20) * 10 + n(0, 3);
                told(a, v, b);
                check("horse", x.horse(a, v, b), m.horse(a, v, b));
                break;
            case 2: case 3:
                h = aHorse();
                a = n(0, 2);
                v = a == 0 ? n(40, 60) : a == 1 ? n(2, 12) : n(0, 60);
                told(h, a, v);
                check("set", x.set(h, a, v), m.set(h, a, v));
                break;
            case 4:
                a = n(0, 4);
                v = a == 4 ? n(0, 3) : n(0, 9);
                told(a, v);
                check("pound", x.pound(a, v), m.pound(a, v));
                break;
            case 5:
                h = aHorse();
                a = n(0, 3);
                b = n(0, 99);
                told(h, a, b);
                check("form", x.form(h, a, b), m.form(h, a, b));
                break;
            case 6: case 7:
                h = aHorse();
                a = n(0, 9);
                told(h, a);
                check("told", x.told(h, a), m.told(h, a));
                break;
            case 8: case 9:
                told(f, w, h, p);
                if (heavy) check("wins", x.wins(f, w, h, p), m.wins(f, w, h, p));
                break;
            case 10:
                a = anOrder(f);
                told(f, w, a, p);
                if (heavy) check("comes", x.comes(f, w, a, p), m.comes(f, w, a, p));
                break;
            case 11:
                a = n(1, 4);
                told(f, w, h, a, p);
                if (heavy) check("worse", x.worse(f, w, h, a, p), m.worse(f, w, h, a, p));
                break;
            case 12:
                told(f, w, p);
                if (heavy) check("even", x.even(f, w, p), m.even(f, w, p));
                break;
            case 13:
                a = random.nextBoolean() ? n(0, 2) : 10 + h;
                told(f, w, a);
                if (heavy) check("near", x.near(f, w, a), m.near(f, w, a));
                break;
            case 14:
                told(f, w);
                if (heavy) check("lay", x.lay(f, w), m.lay(f, w));
                break;
            case 15:
                tapeAText();
                break;
            case 16:
                a = n(0, Math.max(0, m.texts.size() - 1));
                told(a);
                check("force", x.force(a), m.force(a));
                break;
            case 17: case 18: case 19:
                a = anOrder(f);
                w = n(0, 3) * 100 + Math.min(99, (m.rs.isEmpty() ? 0 : m.rs.get(m.rs.size() - 1).day) + n(0, 4));
                b = n(0, 1);
                told(w, a, b);
                check("race", x.race(w, a, b), m.race(w, a, b));
                break;
            case 20:
                a = n(0, Math.max(0, m.rs.size() - 1));
                b = n(0, 12);
                told(a, b);
                check("raceTold", x.raceTold(a, b), m.raceTold(a, b));
                break;
            case 21:
                a = n(0, 3);
                b = n(0, 9);
                told(a, b);
                check("against", x.against(a, b), m.against(a, b));
                check("learnt", x.learnt(a), m.learnt(a));
                break;
            case 22: case 23:
                a = aHorse();
                h = aHorse();
                b = n(0, 2);
                told(a, h, b);
                check("pair", x.pair(a, h, b), m.pair(a, h, b));
                break;
            case 24:
                w = n(0, 3) * 100 + n(0, 5);
                v = random.nextBoolean() ? n(0, 999) : n(0, 30);
                a = n(0, 1);
                told(f, w, h, v, a);
                check("holding", x.holding(f, w, h, v, a), m.holding(f, w, h, v, a));
                break;
            case 25:
                a = n(0, 3);
                told(f, a, h);
                check("yards", x.yards(f, a, h), m.yards(f, a, h));
                break;
            case 26: case 27:
                w = n(0, 3) * 100 + n(1, 12);
                v = n(0, 99999);
                a = n(0, 1);
                told(f, w, v, h, a);
                check("season", x.season(f, w, v, h, a), m.season(f, w, v, h, a));
                break;
            case 28:
                told();
                if (random.nextBoolean()) check("image", x.image(), m.image());
                else check("back", x.back(), m.back());
                break;
            case 29:
                a = n(0, 6);
                told(a);
                check("count", x.count(a), m.count(a));
                break;
            case 30:
                a = n(0, 3);
                b = n(-1, 2);
                v = n(0, 40);
                told(a, b, v);
                check("sheet", x.sheet(a, b, v), m.sheet(a, b, v));
                break;
            case 31:
                fillAHorse();
                break;
            case 32:
                drawCopy();
                break;
            default:
                h = aHorse();
                a = n(0, 5);
                told(h, a);
                check("taken", x.taken(h, a), m.taken(h, a));
                break;
        }
    }

    private void fillAHorse() {
        int s = n(0, 3), at = n(0, 37);
        int[] three = {n(0, 5), n(0, 99), n(2, 12) * 1000 + n(0, 20) * 10 + n(0, 3)};
        for (int k = 0; k < 3; k++) {
            told(s, at + k, three[k]);
            check("cell", x.cell(s, at + k, three[k]), m.cell(s, at + k, three[k]));
        }
    }

    private void drawCopy() {
        int a = n(0, 3), b = n(0, 3), i = n(0, 20), j = n(0, 20), k = n(0, 20);
        told(a, i, b, j, k);
        check("copy", x.copy(a, i, b, j, k), m.copy(a, i, b, j, k));
        int sort = random.nextInt(4) > 0 && a >= 0 && a < 4 ? m.sorts[a] : n(0, 2);
        int many = n(0, 10);
        told(a, sort, i, many);
        check("horses", x.horses(a, sort, i, many), m.horses(a, sort, i, many));
    }

    public static void main(String[] args) {
        for (int run = 0; run < RUNS; run++) {
            ModelTest one = new ModelTest(run);
            int first = run % 11;
            for (int h = 0; h < first; h++) {
                int kind = one.random.nextInt(6), strength = 48 + one.random.nextInt(6);
                int rest = 1000 * (2 + one.random.nextInt(11)) + 10 * one.random.nextInt(21) + one.random.nextInt(4);
                one.check("horse", one.x.horse(kind, strength, rest), one.m.horse(kind, strength, rest));
            }
            for (int c = 0; c < CALLS / 2; c++) {
                one.drawOne();
            }
        }
        System.out.println(wrong == 0 ? "all answers are as the model's" : wrong + " answers are not as the model's");
        if (wrong != 0) {
            System.exit(1);
        }
    }
}
