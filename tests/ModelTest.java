import java.math.BigInteger;
import java.util.ArrayList;
import java.util.Arrays;
import java.util.List;
import java.util.regex.Matcher;
import java.util.regex.Pattern;

/** Long runs of calls, answered by the class and by a slow model of the document; each pair of answers must be alike. */
public final class ModelTest {
    private static int wrong = 0;
    private static long calls = 0;
    private static long seed = 0;
    private static int mostLimbs = 0;

    // ---- the model: rows as lists, whole numbers without a bound, no table kept between two calls

    private static final class Traced {
        int cell, kind, v;
        boolean aside;

        Traced(int cell, int kind, int v, boolean aside) {
            this.cell = cell;
            this.kind = kind;
            this.v = v;
            this.aside = aside;
        }
    }

    private static final class State {
        List<int[]> stuffs = new ArrayList<>();
        int[] rain = {1, 1, 1, 1};
        int years = 10, turn = 0, like = 3;
        int[] habits = new int[21];
        List<Traced> traces = new ArrayList<>();
        int[] copy = new int[48];

        State() {
            Arrays.fill(habits, 1);
            Arrays.fill(copy, -1);
        }

        State twin() {
            State s = new State();
            for (int[] stuff : stuffs) {
                s.stuffs.add(stuff.clone());
            }
            s.rain = rain.clone();
            s.years = years;
            s.turn = turn;
            s.like = like;
            s.habits = habits.clone();
            for (Traced t : traces) {
                s.traces.add(new Traced(t.cell, t.kind, t.v, t.aside));
            }
            s.copy = copy.clone();
            return s;
        }

        /** The coats of a stack from the stone up, or null if it is none. */
        int[] coats(int stack) {
            int[] coats;
            if (stack == 0) {
                coats = new int[0];
            } else if (stack >= 1 && stack <= 4) {
                coats = new int[] {stack - 1};
            } else if (stack >= 5 && stack <= 20) {
                coats = new int[] {(stack - 5) / 4, (stack - 5) % 4};
            } else {
                return null;
            }
            for (int coat : coats) {
                if (coat >= stuffs.size()) {
                    return null;
                }
            }
            return coats;
        }

        /** What is left of each coat, then what is lost of the stone: the wear goes down grain by grain. */
        int[] weathered(int cell, int stack) {
            int[] coats = coats(stack);
            int[] left = new int[coats.length + 1];
            for (int i = 0; i < coats.length; i++) {
                left[i] = stuffs.get(coats[i])[0];
            }
            int quarter = (cell % 8 / 2 + turn) % 4;
            for (int wear = years * rain[quarter]; wear > 0; wear--) {
                int i = coats.length - 1;
                while (i >= 0 && left[i] == 0) {
                    i--;
                }
                if (i >= 0) {
                    left[i]--;
                } else {
                    left[coats.length]++;
                }
            }
            return left;
        }

        int lost(int cell, int stack) {
            return weathered(cell, stack)[coats(stack).length];
        }

        boolean shines(int cell, int stack, int lamp) {
            int[] coats = coats(stack);
            int[] left = weathered(cell, stack);
            for (int i = 0; i < coats.length; i++) {
                int[] stuff = stuffs.get(coats[i]);
                if ((stuff[2] & 1 << lamp) != 0 && left[i] >= stuff[3]) {
                    return true;
                }
            }
            return false;
        }

        boolean isSo(Traced t, int stack) {
            int[] coats = coats(stack);
            switch (t.kind) {
                case 0:
                    int[] left = weathered(t.cell, stack);
                    for (int i = 0; i < coats.length; i++) {
                        if (coats[i] == t.v && left[i] > 0) {
                            return true;
                        }
                    }
                    return false;
                case 1: return shines(t.cell, stack, t.v);
                case 2: return !shines(t.cell, stack, t.v);
                case 3: return lost(t.cell, stack) <= t.v;
                case 4: return lost(t.cell, stack) >= t.v;
                case 6: return coats.length > 0;
                default: return true;
            }
        }

        boolean fits(int cell, int stack) {
            for (Traced t : traces) {
                if (t.cell == cell && !t.aside && !isSo(t, stack)) {
                    return false;
                }
            }
            return true;
        }

        /** The weight that a stack has behind another one (null: none is ahead). */
        BigInteger factor(int cell, Integer ahead, int stack) {
            if (coats(stack) == null || habits[stack] == 0 || !fits(cell, stack)) {
                return BigInteger.ZERO;
            }
            int weight = habits[stack];
            if (ahead != null) {
                for (Traced t : traces) {
                    if (t.cell == cell - 1 && t.kind == 5 && !t.aside
                            && lost(cell - 1, ahead) > lost(cell, stack) - t.v) {
                        return BigInteger.ZERO;
                    }
                }
                if (ahead == stack) {
                    weight *= like;
                }
            }
            return BigInteger.valueOf(weight);
        }

        /** factors[place][ahead][stack]; ahead 21 for none. */
        BigInteger[][][] factors(int hem) {
            BigInteger[][][] f = new BigInteger[8][22][21];
            for (int place = 0; place < 8; place++) {
                for (int ahead = 0; ahead < 22; ahead++) {
                    for (int stack = 0; stack < 21; stack++) {
                        boolean none = ahead < 21 && coats(ahead) == null || ahead == 21 && place != 0
                                || ahead != 21 && place == 0;
                        f[place][ahead][stack] = none ? BigInteger.ZERO
                                : factor(hem * 8 + place, ahead == 21 ? null : ahead, stack);
                    }
                }
            }
            return f;
        }

        /** All weights of a hem's rows with a stack in a place (place -1: of all rows). */
        BigInteger weights(BigInteger[][][] f, int fixedPlace, int fixedStack) {
            BigInteger[] sums = f[0][21].clone();
            for (int place = 0; place < 8; place++) {
                if (place > 0) {
                    BigInteger[] more = new BigInteger[21];
                    for (int stack = 0; stack < 21; stack++) {
                        more[stack] = BigInteger.ZERO;
                        for (int ahead = 0; ahead < 21; ahead++) {
                            if (sums[ahead].signum() != 0) {
                                more[stack] = more[stack].add(sums[ahead].multiply(f[place][ahead][stack]));
                            }
                        }
                    }
                    sums = more;
                }
                for (int stack = 0; stack < 21; stack++) {
                    if (place == fixedPlace && stack != fixedStack) {
                        sums[stack] = BigInteger.ZERO;
                    }
                }
            }
            BigInteger all = BigInteger.ZERO;
            for (BigInteger sum : sums) {
                all = all.add(sum);
            }
            return all;
        }

        BigInteger all(int hem) {
            return weights(factors(hem), -1, 0);
        }

        /** The likeliest row, by keeping for each last stack the best row that ends in it, the first of like ones. */
        int[] likeliest(int hem) {
            BigInteger[][][] f = factors(hem);
            BigInteger[] best = f[0][21].clone();
            int[][] rows = new int[21][];
            for (int stack = 0; stack < 21; stack++) {
                rows[stack] = new int[] {stack};
            }
            for (int place = 1; place < 8; place++) {
                BigInteger[] more = new BigInteger[21];
                int[][] longer = new int[21][];
                for (int stack = 0; stack < 21; stack++) {
                    more[stack] = BigInteger.ZERO;
                    for (int ahead = 0; ahead < 21; ahead++) {
                        BigInteger weight = best[ahead].multiply(f[place][ahead][stack]);
                        int order = weight.compareTo(more[stack]);
                        if (longer[stack] == null || order > 0
                                || order == 0 && Arrays.compare(rows[ahead], longer[stack]) < 0) {
                            more[stack] = weight;
                            longer[stack] = Arrays.copyOf(rows[ahead], place + 1);
                            longer[stack][place] = stack;
                        }
                    }
                }
                best = more;
                rows = longer;
            }
            int found = 0;
            for (int stack = 1; stack < 21; stack++) {
                int order = best[stack].compareTo(best[found]);
                if (order > 0 || order == 0 && Arrays.compare(rows[stack], rows[found]) < 0) {
                    found = stack;
                }
            }
            return best[found].signum() == 0 ? null : rows[found];
        }

        int top(int stack) {
            int[] coats = coats(stack);
            return coats.length == 0 ? -1 : coats[coats.length - 1];
        }
    }

    private static final class Model {
        State s = new State();
        State[] images = new State[2];
        StringBuilder text = new StringBuilder();
        BigInteger over = BigInteger.ZERO, under = BigInteger.ONE;
        int[] status = new int[3];

        int bad() {
            status[0]++;
            return -2;
        }

        int no() {
            status[1]++;
            return -3;
        }

        int full() {
            status[2]++;
            return -4;
        }

        int counted(int answer) {
            if (answer == -2 || answer == -10) {
                status[0]++;
            } else if (answer == -3) {
                status[1]++;
            } else if (answer == -4) {
                status[2]++;
            }
            return answer;
        }

        static boolean in(int v, int a, int b) {
            return v >= a && v <= b;
        }

        static boolean stackIn(State s, int stack) {
            return in(stack, 0, 20) && s.coats(stack) != null;
        }

        static int stuff(State s, int a, int b, int c, int d) {
            if (!in(a, 1, 60) || !in(b, 0, 9) || !in(c, 0, 15) || !in(d, 1, 9)) {
                return -2;
            }
            if (s.stuffs.size() == 4) {
                return -4;
            }
            s.stuffs.add(new int[] {a, b, c, d});
            return s.stuffs.size() - 1;
        }

        static int put(State s, int what, int v) {
            int old;
            if (in(what, 0, 3) && in(v, 0, 5)) {
                old = s.rain[what];
                s.rain[what] = v;
            } else if (what == 4 && in(v, 0, 60)) {
                old = s.years;
                s.years = v;
            } else if (what == 5 && in(v, 0, 3)) {
                old = s.turn;
                s.turn = v;
            } else if (what == 6 && in(v, 1, 9)) {
                old = s.like;
                s.like = v;
            } else {
                return -2;
            }
            return old;
        }

        static int habit(State s, int stack, int weight) {
            if (!in(stack, 0, 20) || !in(weight, 0, 9)) {
                return -2;
            }
            int old = s.habits[stack];
            s.habits[stack] = weight;
            return old;
        }

        static int trace(State s, int cell, int kind, int v) {
            int[] least = {0, 0, 0, 0, 0, 1, 0};
            int[] most = {s.stuffs.size() - 1, 3, 3, 400, 400, 400, 0};
            if (!in(cell, 0, 47) || !in(kind, 0, 6) || !in(v, least[kind], most[kind])
                    || kind == 5 && cell % 8 == 7) {
                return -2;
            }
            if (s.traces.size() == 20) {
                return -4;
            }
            s.traces.add(new Traced(cell, kind, v, false));
            return s.traces.size() - 1;
        }

        static int copy(State s, int cell, int stuff) {
            if (!in(cell, 0, 47) || !in(stuff, -1, s.stuffs.size() - 1)) {
                return -10;
            }
            int old = s.copy[cell];
            s.copy[cell] = stuff;
            return old;
        }

        int aside(int trace, boolean is) {
            if (!in(trace, 0, s.traces.size() - 1)) {
                return bad();
            }
            if (s.traces.get(trace).aside == is) {
                return no();
            }
            s.traces.get(trace).aside = is;
            return 1;
        }

        int clearText() {
            int had = text.length();
            text.setLength(0);
            return had;
        }

        int type(long v, int n) {
            if (!in(n, 1, 8)) {
                return bad();
            }
            if (text.length() + n > 300) {
                return full();
            }
            for (int i = n - 1; i >= 0; i--) {
                text.append((char) (v >> 8 * i & 255));
            }
            return text.length();
        }

        private static final List<String> WORDS = List.of("stuff", "rain", "years", "turn", "like", "habit",
                "grain", "shines", "dark", "stands", "worn", "edge", "cut", "copy");

        /** Token for token against a pattern of what can stand there. */
        int statue() {
            Matcher m = Pattern.compile("( *)([a-z]+|[0-9]+|;|[^ ]|$)", Pattern.DOTALL).matcher(text);
            List<int[]> items = new ArrayList<>();
            int[] item = null;
            int given = 0;
            int at = 0;
            while (m.find(at)) {
                String token = m.group(2);
                int place = m.start(2);
                if (token.isEmpty()) {
                    if (item != null) {
                        return -10 - text.length();
                    }
                    break;
                }
                if (item == null) {
                    if (!WORDS.contains(token)) {
                        return -10 - place;
                    }
                    item = new int[] {WORDS.indexOf(token), 0, 0, 0, 0};
                    given = 0;
                } else if (given < wanted(item[0])) {
                    if (!token.matches("[0-9]{1,3}")) {
                        return -10 - place;
                    }
                    item[++given] = Integer.parseInt(token);
                } else if (token.equals(";")) {
                    items.add(item);
                    item = null;
                } else {
                    return -10 - place;
                }
                at = m.end();
            }
            State told = new State();
            for (int i = 0; i < items.size(); i++) {
                if (tell(told, items.get(i)) < -1) {
                    return -1000 - i;
                }
            }
            s = told;
            return items.size();
        }

        private static int wanted(int word) {
            return word == 0 ? 4 : word == 2 || word == 3 || word == 4 || word == 12 ? 1 : 2;
        }

        private static int tell(State s, int[] i) {
            switch (WORDS.get(i[0])) {
                case "stuff": return stuff(s, i[1], i[2], i[3], i[4]);
                case "rain": return i[1] > 3 ? -2 : put(s, i[1], i[2]);
                case "years": return put(s, 4, i[1]);
                case "turn": return put(s, 5, i[1]);
                case "like": return put(s, 6, i[1]);
                case "habit": return habit(s, i[1], i[2]);
                case "grain": return trace(s, i[1], 0, i[2]);
                case "shines": return trace(s, i[1], 1, i[2]);
                case "dark": return trace(s, i[1], 2, i[2]);
                case "stands": return trace(s, i[1], 3, i[2]);
                case "worn": return trace(s, i[1], 4, i[2]);
                case "edge": return trace(s, i[1], 5, i[2]);
                case "cut": return trace(s, i[1], 6, 0);
                default: return copy(s, i[1], i[2]);
            }
        }

        void fraction(BigInteger a, BigInteger b) {
            BigInteger g = a.gcd(b);
            over = a.divide(g);
            under = b.divide(g);
        }

        int left(int cell, int stack, int what) {
            if (!in(cell, 0, 47) || !stackIn(s, stack) || !in(what, 0, 2)) {
                return bad();
            }
            int[] left = s.weathered(cell, stack);
            return what == 2 ? left[left.length - 1] : what < left.length - 1 ? left[what] : 0;
        }

        int shines(int cell, int stack, int lamp) {
            if (!in(cell, 0, 47) || !stackIn(s, stack) || !in(lamp, 0, 3)) {
                return bad();
            }
            return s.shines(cell, stack, lamp) ? 1 : 0;
        }

        int fits(int cell, int stack) {
            if (!in(cell, 0, 47) || !stackIn(s, stack)) {
                return bad();
            }
            return s.fits(cell, stack) ? 1 : 0;
        }

        int odds(int cell, int stack) {
            if (!in(cell, 0, 47) || !stackIn(s, stack)) {
                return bad();
            }
            BigInteger[][][] f = s.factors(cell / 8);
            BigInteger all = s.weights(f, -1, 0);
            if (all.signum() == 0) {
                return no();
            }
            fraction(s.weights(f, cell % 8, stack), all);
            return 1;
        }

        int above(int cell) {
            if (!in(cell, 0, 47)) {
                return bad();
            }
            BigInteger[][][] f = s.factors(cell / 8);
            BigInteger all = s.weights(f, -1, 0);
            if (all.signum() == 0) {
                return no();
            }
            BigInteger two = BigInteger.ZERO;
            for (int stack = 5; stack < 21; stack++) {
                two = two.add(s.weights(f, cell % 8, stack));
            }
            fraction(two, all);
            return 1;
        }

        int likeliest(int hem, int place) {
            if (!in(hem, 0, 5) || !in(place, 0, 7)) {
                return bad();
            }
            int[] row = s.likeliest(hem);
            return row == null ? no() : row[place];
        }

        int stood(int turn) {
            if (!in(turn, 0, 3)) {
                return bad();
            }
            BigInteger chosen = null;
            BigInteger together = BigInteger.ZERO;
            for (int t = 0; t < 4; t++) {
                State turned = s.twin();
                turned.turn = t;
                BigInteger product = BigInteger.ONE;
                for (int hem = 0; hem < 6; hem++) {
                    product = product.multiply(turned.all(hem));
                }
                together = together.add(product);
                if (t == turn) {
                    chosen = product;
                }
            }
            if (together.signum() == 0) {
                return no();
            }
            fraction(chosen, together);
            return 1;
        }

        int span(int stuff, int what) {
            if (!in(stuff, 0, s.stuffs.size() - 1) || !in(what, 0, 1)) {
                return bad();
            }
            for (int i = 1; i <= 60; i++) {
                int thick = what == 0 ? i : 61 - i;
                State other = s.twin();
                other.stuffs.get(stuff)[0] = thick;
                boolean can = true;
                for (int hem = 0; hem < 6 && can; hem++) {
                    can = other.all(hem).signum() != 0;
                }
                if (can) {
                    return thick;
                }
            }
            return -1;
        }

        int later(int hem) {
            if (!in(hem, 0, 5)) {
                return bad();
            }
            int own = 0;
            for (int i = 0; i < s.traces.size(); i++) {
                if (!s.traces.get(i).aside && s.traces.get(i).cell / 8 == hem) {
                    own |= 1 << i;
                }
            }
            for (int size = 0; size <= 3; size++) {
                for (int bits = 0; bits <= own; bits++) {
                    if ((bits & ~own) == 0 && Integer.bitCount(bits) == size) {
                        State without = s.twin();
                        for (int i = 0; i < s.traces.size(); i++) {
                            without.traces.get(i).aside |= (bits >> i & 1) == 1;
                        }
                        if (without.all(hem).signum() != 0) {
                            return bits;
                        }
                    }
                }
            }
            return -5;
        }

        int next() {
            int found = -1;
            BigInteger offBy = null;
            BigInteger offOf = null;
            for (int cell = 0; cell < 48; cell++) {
                BigInteger[][][] f = s.factors(cell / 8);
                BigInteger all = s.weights(f, -1, 0);
                for (int lamp = 0; lamp < 4 && all.signum() != 0; lamp++) {
                    BigInteger shining = BigInteger.ZERO;
                    for (int stack = 0; stack < 21; stack++) {
                        if (s.coats(stack) != null && s.shines(cell, stack, lamp)) {
                            shining = shining.add(s.weights(f, cell % 8, stack));
                        }
                    }
                    BigInteger off = shining.shiftLeft(1).subtract(all).abs();
                    if (found < 0 || off.multiply(offOf).compareTo(offBy.multiply(all)) < 0) {
                        found = 10 * cell + lamp;
                        offBy = off;
                        offOf = all;
                    }
                }
            }
            return found < 0 ? no() : found;
        }

        /** -3 if the hem can not be. */
        int restsOn(int cell) {
            BigInteger[][][] f = s.factors(cell / 8);
            BigInteger all = s.weights(f, -1, 0);
            BigInteger on = BigInteger.ZERO;
            boolean each = true;
            for (int stack = 0; stack < 21; stack++) {
                BigInteger weight = s.coats(stack) == null ? BigInteger.ZERO : s.weights(f, cell % 8, stack);
                if (weight.signum() != 0) {
                    if (s.top(stack) == s.copy[cell]) {
                        on = on.add(weight);
                    } else {
                        each = false;
                    }
                }
            }
            if (all.signum() == 0) {
                return -3;
            }
            return each ? 0 : on.shiftLeft(1).compareTo(all) > 0 ? 1 : on.signum() > 0 ? 2 : 3;
        }

        int rests(int cell) {
            return in(cell, 0, 47) ? counted(restsOn(cell)) : bad();
        }

        int resting(int hem, int what) {
            if (!in(hem, 0, 5) || !in(what, 0, 3)) {
                return bad();
            }
            int found = 0;
            for (int place = 0; place < 8; place++) {
                int on = restsOn(8 * hem + place);
                if (on == -3) {
                    return no();
                }
                found += on == what ? 1 : 0;
            }
            return found;
        }

        int bright(int cell, int what) {
            if (!in(cell, 0, 47) || !in(what, 0, 2)) {
                return bad();
            }
            BigInteger[][][] f = s.factors(cell / 8);
            BigInteger all = s.weights(f, -1, 0);
            if (all.signum() == 0) {
                return no();
            }
            int least = 10;
            int most = -1;
            BigInteger sum = BigInteger.ZERO;
            for (int stack = 0; stack < 21; stack++) {
                if (s.coats(stack) == null) {
                    continue;
                }
                BigInteger weight = s.weights(f, cell % 8, stack);
                int bright = s.top(stack) < 0 ? 9 : s.stuffs.get(s.top(stack))[1];
                if (weight.signum() != 0) {
                    least = Math.min(least, bright);
                    most = Math.max(most, bright);
                    sum = sum.add(weight.multiply(BigInteger.valueOf(bright)));
                }
            }
            if (what < 2) {
                return what == 0 ? least : most;
            }
            fraction(sum, all);
            return 1;
        }

        static List<Integer> limbs(BigInteger v) {
            List<Integer> limbs = new ArrayList<>();
            BigInteger base = BigInteger.valueOf(1073741824);
            for (BigInteger rest = v; rest.signum() != 0; rest = rest.divide(base)) {
                limbs.add(rest.mod(base).intValue());
            }
            return limbs;
        }

        int sign(int what) {
            if (!in(what, 0, 2)) {
                return bad();
            }
            return what == 0 ? over.signum() : limbs(what == 1 ? over : under).size();
        }

        int limb(int which, int i) {
            if (!in(which, 0, 1) || i < 0) {
                return bad();
            }
            List<Integer> limbs = limbs(which == 0 ? over : under);
            return i < limbs.size() ? limbs.get(i) : -1;
        }

        int image(int i) {
            if (!in(i, 0, 1)) {
                return bad();
            }
            images[i] = s.twin();
            return 1;
        }

        int from(int i) {
            if (!in(i, 0, 1)) {
                return bad();
            }
            if (images[i] == null) {
                return no();
            }
            s = images[i].twin();
            return 1;
        }

        int status(int what) {
            if (!in(what, 0, 2)) {
                bad();
                return -1;
            }
            return status[what];
        }

        int count(int what) {
            if (!in(what, 0, 3)) {
                return bad();
            }
            int aside = 0;
            for (Traced t : s.traces) {
                aside += t.aside ? 1 : 0;
            }
            return new int[] {s.stuffs.size(), s.traces.size(), aside, text.length()}[what];
        }

        long digest() {
            List<Integer> all = new ArrayList<>();
            for (int what = 0; what < 4; what++) {
                all.add(count(what));
            }
            for (int[] stuff : s.stuffs) {
                for (int v : stuff) {
                    all.add(v);
                }
            }
            for (int v : s.rain) {
                all.add(v);
            }
            all.addAll(List.of(s.years, s.turn, s.like));
            for (int v : s.habits) {
                all.add(v);
            }
            for (Traced t : s.traces) {
                all.addAll(List.of(t.cell, t.kind, t.v, t.aside ? 1 : 0));
            }
            for (int v : s.copy) {
                all.add(v);
            }
            all.addAll(List.of(sign(0), sign(1), sign(2)));
            all.addAll(limbs(over));
            all.addAll(limbs(under));
            long h = 557;
            for (int v : all) {
                h = 31 * h + v;
            }
            return h;
        }
    }

    // ---- the runs

    private static int upTo(int n) {
        seed = seed * 6364136223846793005L + 1442695040888963407L;
        return (int) ((seed >>> 33) % n);
    }

    private static int odd(int least, int most) {
        int[] edges = {least - 1, most + 1, Integer.MIN_VALUE, Integer.MAX_VALUE, -1, least - 2, most + 1000};
        return upTo(25) == 0 ? edges[upTo(edges.length)] : least + upTo(most - least + 1);
    }

    private static String item() {
        String[] seldom = {"years", "turn", "like"};
        switch (upTo(9)) {
            case 0:
            case 1: return "stuff " + (1 + upTo(30)) + " " + upTo(10) + " " + upTo(16) + " " + (1 + upTo(9)) + ";";
            case 2: return "rain " + upTo(4) + "  " + upTo(6) + " ;";
            case 3: return seldom[upTo(3)] + (1 + upTo(3)) + ";";
            case 4: return "habit" + upTo(21) + " " + upTo(10) + ";";
            case 5: return "  cut " + upTo(48) + ";";
            case 6: return "copy " + upTo(48) + " " + upTo(upTo(4) == 0 ? 4 : 1) + ";";
            default:
                String kind = Model.WORDS.get(6 + upTo(6));
                return kind + " " + upTo(48) + " " + upTo(kind.equals("grain") && upTo(5) != 0 ? 1 : 4) + ";";
        }
    }

    private static String someText() {
        StringBuilder t = new StringBuilder("stuff " + (1 + upTo(60)) + " 3 5 2;");
        for (int i = upTo(12); i > 0; i--) {
            t.append(item());
        }
        String spoils = "a;9 0Z\u00ff\0\nst1";
        for (int i = upTo(3) == 0 ? 1 + upTo(2) : 0; i > 0; i--) {
            int place = upTo(t.length() + 1);
            if (upTo(2) == 0) {
                t.insert(place, spoils.charAt(upTo(spoils.length())));
            } else {
                t.setLength(upTo(4) == 0 ? place : Math.max(0, t.length() - upTo(3)));
            }
        }
        return t.toString();
    }

    private static void due(String call, long got, long want) {
        calls++;
        if (got != want) {
            wrong++;
            System.out.println("call " + calls + ": " + call + " answered " + got + ", due is " + want);
        }
    }

    private static void typeWhole(PaintedGods x, Model m, String text) {
        due("clear()", x.clear(), m.clearText());
        for (int i = 0; i < text.length(); i += 8) {
            int n = Math.min(8, text.length() - i);
            long v = upTo(2) == 0 ? -1 : 0;
            for (int k = i; k < i + n; k++) {
                v = v << 8 | text.charAt(k);
            }
            due("type(" + v + ", " + n + ")", x.type(v, n), m.type(v, n));
        }
    }

    private static void tell(PaintedGods x, Model m) {
        switch (upTo(8)) {
            case 0: {
                int a = odd(1, 60), b = odd(0, 9), c = odd(0, 15), d = odd(1, 9);
                due("stuff", x.stuff(a, b, c, d), m.counted(Model.stuff(m.s, a, b, c, d)));
                break;
            }
            case 1: {
                int a = odd(0, 6), b = upTo(2) == 0 ? odd(0, 3) : odd(0, 60);
                due("put(" + a + ", " + b + ")", x.put(a, b), m.counted(Model.put(m.s, a, b)));
                break;
            }
            case 2: {
                int a = odd(0, 20), b = odd(0, 9);
                due("habit(" + a + ", " + b + ")", x.habit(a, b), m.counted(Model.habit(m.s, a, b)));
                break;
            }
            case 3:
            case 4: {
                int a = odd(0, 47), kind = odd(0, 6);
                int v = kind == 6 ? odd(0, 0) : kind < 3 ? odd(0, 3) : upTo(2) == 0 ? odd(0, 30) : odd(0, 400);
                due("trace(" + a + ", " + kind + ", " + v + ")", x.trace(a, kind, v),
                        m.counted(Model.trace(m.s, a, kind, v)));
                break;
            }
            case 5:
            case 6: {
                int a = odd(0, Math.max(0, m.s.traces.size() - 1));
                boolean is = upTo(3) != 0;
                due("aside(" + a + ", " + is + ")", x.aside(a, is), m.aside(a, is));
                break;
            }
            default: {
                int a = odd(0, 47), b = odd(-1, 3);
                due("copy(" + a + ", " + b + ")", x.copy(a, b), m.counted(Model.copy(m.s, a, b)));
            }
        }
    }

    private static void ask(PaintedGods x, Model m) {
        int cell = odd(0, 47), stack = odd(0, 20), hem = odd(0, 5);
        switch (upTo(16)) {
            case 0: {
                int what = odd(0, 2);
                due("left(" + cell + ", " + stack + ", " + what + ")", x.left(cell, stack, what),
                        m.left(cell, stack, what));
                break;
            }
            case 1: {
                int lamp = odd(0, 3);
                due("shines(" + cell + ", " + stack + ", " + lamp + ")", x.shines(cell, stack, lamp),
                        m.shines(cell, stack, lamp));
                break;
            }
            case 2: due("fits(" + cell + ", " + stack + ")", x.fits(cell, stack), m.fits(cell, stack)); break;
            case 3: due("odds(" + cell + ", " + stack + ")", x.odds(cell, stack), m.odds(cell, stack)); break;
            case 4: due("above(" + cell + ")", x.above(cell), m.above(cell)); break;
            case 5: {
                int place = odd(0, 7);
                due("likeliest(" + hem + ", " + place + ")", x.likeliest(hem, place), m.likeliest(hem, place));
                break;
            }
            case 6: due("rests(" + cell + ")", x.rests(cell), m.rests(cell)); break;
            case 7: {
                int what = odd(0, 3);
                due("resting(" + hem + ", " + what + ")", x.resting(hem, what), m.resting(hem, what));
                break;
            }
            case 8: {
                int what = odd(0, 2);
                due("bright(" + cell + ", " + what + ")", x.bright(cell, what), m.bright(cell, what));
                break;
            }
            case 9: due("digest()", x.digest(), m.digest()); break;
            case 10: {
                int which = odd(0, 1), i = odd(0, 13);
                due("limb(" + which + ", " + i + ")", x.limb(which, i), m.limb(which, i));
                break;
            }
            case 11: {
                int what = odd(0, 2);
                due("sign(" + what + ")", x.sign(what), m.sign(what));
                due("status(" + what + ")", x.status(what), m.status(what));
                break;
            }
            case 12: {
                int what = odd(0, 3);
                due("count(" + what + ")", x.count(what), m.count(what));
                break;
            }
            case 13: {
                int i = odd(0, 1);
                due("image(" + i + ")", x.image(i), m.image(i));
                break;
            }
            case 14: {
                int i = odd(0, 1);
                due("from(" + i + ")", x.from(i), m.from(i));
                break;
            }
            default: askDear(x, m, hem);
        }
    }

    private static void askDear(PaintedGods x, Model m, int hem) {
        int turn = odd(0, 3), stuff = odd(0, Math.max(0, m.s.stuffs.size() - 1)), what = odd(0, 1);
        switch (upTo(6)) {
            case 0: due("stood(" + turn + ")", x.stood(turn), m.stood(turn)); break;
            case 1: due("span(" + stuff + ", " + what + ")", x.span(stuff, what), m.span(stuff, what)); break;
            case 2:
            case 3: due("later(" + hem + ")", x.later(hem), m.later(hem)); break;
            default: due("next()", x.next(), m.next());
        }
        due("digest()", x.digest(), m.digest());
    }

    /** Many traces on one hem, as they would be seen or not: so that later, span and likeliest have work. */
    private static void crowd(PaintedGods x, Model m) {
        int hem = upTo(6);
        int stuffs = 1 + upTo(3);
        for (int i = 0; i < stuffs; i++) {
            int a = 1 + upTo(15), b = upTo(10), c = upTo(16), d = 1 + upTo(4);
            due("stuff", x.stuff(a, b, c, d), m.counted(Model.stuff(m.s, a, b, c, d)));
        }
        for (int i = 0; i < 4; i++) {
            int v = upTo(4);
            due("put", x.put(i, v), m.counted(Model.put(m.s, i, v)));
        }
        for (int i = 3 + upTo(9); i > 0; i--) {
            int cell = 8 * hem + upTo(8), kind = upTo(7), v = kind == 6 ? 0 : kind < 3 ? upTo(4) : upTo(25);
            due("trace", x.trace(cell, kind, v), m.counted(Model.trace(m.s, cell, kind, v)));
        }
        due("later(" + hem + ")", x.later(hem), m.later(hem));
        due("next()", x.next(), m.next());
        due("span(0, 0)", x.span(0, 0), m.span(0, 0));
        due("span(0, 1)", x.span(0, 1), m.span(0, 1));
        for (int place = 0; place < 8; place++) {
            due("likeliest(" + hem + ", " + place + ")", x.likeliest(hem, place), m.likeliest(hem, place));
            due("rests", x.rests(8 * hem + place), m.rests(8 * hem + place));
            due("bright", x.bright(8 * hem + place, 2), m.bright(8 * hem + place, 2));
        }
        due("stood(1)", x.stood(1), m.stood(1));
        due("digest()", x.digest(), m.digest());
    }

    private static void run(int number) {
        seed = number * 7919L + 17;
        PaintedGods x = new PaintedGods();
        Model m = new Model();
        for (int i = number % 4; i > 0; i--) {
            int a = 1 + upTo(20), b = upTo(10), c = upTo(16), d = 1 + upTo(5);
            due("stuff", x.stuff(a, b, c, d), m.counted(Model.stuff(m.s, a, b, c, d)));
        }
        if (number % 5 == 0) {
            crowd(x, m);
        }
        for (int i = 0; i < 150; i++) {
            if (upTo(40) == 0) {
                typeWhole(x, m, someText());
            }
            if (upTo(20) == 0) {
                due("statue() of " + m.text, x.statue(), m.statue());
            } else if (upTo(30) == 0) {
                int n = odd(1, 8);
                long v = (long) upTo(Integer.MAX_VALUE) << 32 | 0x20202020;
                due("type", x.type(v, n), m.type(v, n));
            } else if (upTo(3) == 0) {
                tell(x, m);
            } else {
                ask(x, m);
            }
        }
        due("digest()", x.digest(), m.digest());
    }

    /** The greatest weights there are: all habits and LIKE 9, four stuffs; ALL is above the greatest long. */
    private static void greatest() {
        PaintedGods x = new PaintedGods();
        Model m = new Model();
        int[][] stuffs = {{60, 9, 15, 1}, {59, 8, 7, 9}, {1, 0, 1, 1}, {7, 9, 2, 3}};
        for (int[] s : stuffs) {
            due("stuff", x.stuff(s[0], s[1], s[2], s[3]), m.counted(Model.stuff(m.s, s[0], s[1], s[2], s[3])));
        }
        due("put(6, 9)", x.put(6, 9), m.counted(Model.put(m.s, 6, 9)));
        for (int stack = 0; stack < 21; stack++) {
            due("habit", x.habit(stack, 9), m.counted(Model.habit(m.s, stack, 9)));
        }
        for (int round = 0; round < 3; round++) {
            for (int cell = 0; cell < 48; cell += 5) {
                due("odds", x.odds(cell, cell % 21), m.odds(cell, cell % 21));
                due("digest()", x.digest(), m.digest());
                due("above", x.above(cell), m.above(cell));
                due("digest()", x.digest(), m.digest());
                due("bright", x.bright(cell, 2), m.bright(cell, 2));
                due("digest()", x.digest(), m.digest());
                due("rests", x.rests(cell), m.rests(cell));
            }
            due("next()", x.next(), m.next());
            due("stood(3)", x.stood(3), m.stood(3));
            due("digest()", x.digest(), m.digest());
            due("likeliest(2, 7)", x.likeliest(2, 7), m.likeliest(2, 7));
            due("habit", x.habit(0, 8 - round), m.counted(Model.habit(m.s, 0, 8 - round)));
            due("trace", x.trace(3 + round, 3, 0), m.counted(Model.trace(m.s, 3 + round, 3, 0)));
            due("put", x.put(1, 5), m.counted(Model.put(m.s, 1, 5)));
            due("put", x.put(4, 30), m.counted(Model.put(m.s, 4, 30)));
            due("trace", x.trace(10 + round, 1, round), m.counted(Model.trace(m.s, 10 + round, 1, round)));
            due("copy", x.copy(10 + round, round), m.counted(Model.copy(m.s, 10 + round, round)));
        }
    }

    /** Where each hem's ALL is of its own at each TURN the fractions of STOOD have many limbs and little in common. */
    private static void manyLimbs(int number) {
        seed = number * 104729L + 5;
        PaintedGods x = new PaintedGods();
        Model m = new Model();
        for (int i = 0; i < 4; i++) {
            int thick = 6 + upTo(20), shines = 1 + upTo(15), least = 1 + upTo(3);
            due("stuff", x.stuff(thick, i, shines, least), m.counted(Model.stuff(m.s, thick, i, shines, least)));
        }
        for (int stack = 0; stack < 21; stack++) {
            int weight = 1 + upTo(9);
            due("habit", x.habit(stack, weight), m.counted(Model.habit(m.s, stack, weight)));
        }
        for (int quarter = 0; quarter < 4; quarter++) {
            due("put", x.put(quarter, quarter), m.counted(Model.put(m.s, quarter, quarter)));
        }
        int like = 2 + upTo(8), years = 4 + upTo(3);
        due("put(6)", x.put(6, like), m.counted(Model.put(m.s, 6, like)));
        due("put(4)", x.put(4, years), m.counted(Model.put(m.s, 4, years)));
        for (int i = 0; i < 20; i++) {
            int cell = i % 6 * 8 + i / 6 * 2 + upTo(2), kind = upTo(4), v = kind < 3 ? upTo(4) : upTo(10);
            due("trace", x.trace(cell, kind, v), m.counted(Model.trace(m.s, cell, kind, v)));
        }
        for (int turn = 0; turn < 4; turn++) {
            due("stood(" + turn + ")", x.stood(turn), m.stood(turn));
            due("sign(1)", x.sign(1), m.sign(1));
            due("digest()", x.digest(), m.digest());
            mostLimbs = Math.max(mostLimbs, x.sign(2));
        }
        due("next()", x.next(), m.next());
    }

    /** The model's own sums against each row written out, where there are few. */
    private static void checkModel() {
        State s = new State();
        Model.stuff(s, 6, 4, 3, 2);
        Model.put(s, 1, 2);
        Model.put(s, 2, 0);
        Model.habit(s, 1, 4);
        Model.habit(s, 5, 2);
        Model.trace(s, 1, 5, 3);
        Model.trace(s, 2, 4, 9);
        Model.trace(s, 3, 2, 0);
        Model.trace(s, 5, 0, 0);
        Model.trace(s, 7, 6, 0);
        int[] stacks = {0, 1, 5};
        BigInteger all = BigInteger.ZERO;
        BigInteger best = BigInteger.ZERO;
        int[] likeliest = null;
        for (int i = 0; i < 6561; i++) {
            int[] row = new int[8];
            int rest = i;
            for (int place = 7; place >= 0; place--) {
                row[place] = stacks[rest % 3];
                rest /= 3;
            }
            BigInteger weight = BigInteger.ONE;
            for (int place = 0; place < 8; place++) {
                weight = weight.multiply(s.factor(place, place == 0 ? null : row[place - 1], row[place]));
            }
            all = all.add(weight);
            if (weight.compareTo(best) > 0) {
                best = weight;
                likeliest = row;
            }
        }
        due("the model's ALL", s.all(0).longValue(), all.longValue());
        due("the model has rows", all.signum(), 1);
        due("the model's likeliest row", Arrays.equals(s.likeliest(0), likeliest) ? 1 : 0, 1);
    }

    public static void main(String[] args) {
        int runs = args.length > 0 ? Integer.parseInt(args[0]) : 120;
        checkModel();
        greatest();
        for (int number = 0; number < 12; number++) {
            manyLimbs(number);
        }
        due("fractions of ten limbs and more", mostLimbs >= 10 ? 1 : 0, 1);
        for (int number = 0; number < runs && wrong < 20; number++) {
            run(number);
        }
        System.out.println(wrong == 0 ? "all " + calls + " answers are as due" : wrong + " answers are not as due");
        if (wrong != 0) {
            System.exit(1);
        }
    }
}
