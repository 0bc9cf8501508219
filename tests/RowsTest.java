import java.math.BigInteger;
import java.util.ArrayList;
import java.util.Arrays;
import java.util.List;

/** What is asked of hems against each row of stacks written out, with no sums shared: small statues, all their rows. */
public final class RowsTest {
    private static final int GRAIN = 0, SHINES = 1, DARK = 2, STANDS = 3, WORN = 4, EDGE = 5, CUT = 6;
    private static final int BAD = -2, NO = -3;

    private static int wrong = 0;
    private static long asked = 0;
    private static long seed = 20;

    private static void due(String what, long got, long want) {
        asked++;
        if (got != want && wrong++ < 20) {
            System.out.println(what + " answered " + got + ", due is " + want);
        }
    }

    private static int upTo(int n) {
        seed = seed * 6364136223846793005L + 1442695040888963407L;
        return (int) ((seed >>> 33) % n);
    }

    /** A statue as plain rows of numbers, with what the document says of a row. */
    private static final class Told {
        int stuffs = 0;
        int[][] stuff = new int[4][4];
        int[] rain = {1, 1, 1, 1};
        int years = 10, turn = 0, like = 3;
        int[] habits = new int[21];
        List<int[]> traces = new ArrayList<>();
        int asides = 0;
        int[] copy = new int[48];

        Told() {
            Arrays.fill(habits, 1);
            Arrays.fill(copy, -1);
        }

        int thick(int coat) {
            return coat < 0 ? 0 : stuff[coat][0];
        }

        /** The stuff of the ground (0) or of what is above it (1), or -1. */
        int coat(int stack, int which) {
            if (stack == 0 || which == 1 && stack < 5) {
                return -1;
            }
            return stack < 5 ? stack - 1 : which == 0 ? (stack - 5) / 4 : (stack - 5) % 4;
        }

        boolean isThere(int stack) {
            return coat(stack, 0) < stuffs && coat(stack, 1) < stuffs;
        }

        int top(int stack) {
            return coat(stack, stack < 5 ? 0 : 1);
        }

        int bright(int stack) {
            return top(stack) < 0 ? 9 : stuff[top(stack)][1];
        }

        /** Year by year and drop by drop: what is left of the ground, of what is above it, and how much stone is lost. */
        int[] left(int cell, int stack) {
            int wear = years * rain[(cell % 8 / 2 + turn) % 4];
            int[] left = {thick(coat(stack, 0)), thick(coat(stack, 1)), 0};
            for (int i = 0; i < wear; i++) {
                if (left[1] > 0) {
                    left[1]--;
                } else if (left[0] > 0) {
                    left[0]--;
                } else {
                    left[2]++;
                }
            }
            return left;
        }

        boolean shines(int cell, int stack, int lamp) {
            int[] left = left(cell, stack);
            for (int which = 0; which < 2; which++) {
                int coat = coat(stack, which);
                if (coat >= 0 && left[which] >= stuff[coat][3] && (stuff[coat][2] >> lamp & 1) == 1) {
                    return true;
                }
            }
            return false;
        }

        boolean isSo(int[] trace, int stack) {
            int[] left = left(trace[0], stack);
            switch (trace[1]) {
                case GRAIN: return left[0] > 0 && coat(stack, 0) == trace[2] || left[1] > 0 && coat(stack, 1) == trace[2];
                case SHINES: return shines(trace[0], stack, trace[2]);
                case DARK: return !shines(trace[0], stack, trace[2]);
                case STANDS: return left[2] <= trace[2];
                case WORN: return left[2] >= trace[2];
                case CUT: return stack != 0;
                default: return true;
            }
        }
    }

    /** All rows of a hem: what their weights come to. */
    private static final class Rows {
        final Told told;
        final int hem;
        final int[] stacks;
        final boolean[][] free = new boolean[8][21];
        final int[][] lost = new int[8][21];
        final int[] row = new int[8];
        final long[][] with = new long[8][21];
        final int[] edge = new int[8];
        long all = 0;
        long best = 0;
        int[] likeliest = null;

        Rows(Told told, int hem, int asides) {
            this.told = told;
            this.hem = hem;
            int[] found = new int[21];
            int count = 0;
            for (int stack = 0; stack < 21; stack++) {
                if (told.isThere(stack) && told.habits[stack] > 0) {
                    found[count++] = stack;
                }
            }
            stacks = Arrays.copyOf(found, count);
            for (int place = 0; place < 8; place++) {
                for (int stack : stacks) {
                    lost[place][stack] = told.left(8 * hem + place, stack)[2];
                    free[place][stack] = true;
                    for (int i = 0; i < told.traces.size(); i++) {
                        int[] trace = told.traces.get(i);
                        if ((asides >> i & 1) == 0 && trace[0] == 8 * hem + place) {
                            free[place][stack] &= told.isSo(trace, stack);
                            edge[place] = trace[1] == EDGE ? Math.max(edge[place], trace[2]) : edge[place];
                        }
                    }
                }
            }
            write(0);
        }

        private void write(int place) {
            if (place == 8) {
                weigh();
                return;
            }
            for (int stack : stacks) {
                row[place] = stack;
                write(place + 1);
            }
        }

        private void weigh() {
            long weight = 1;
            for (int place = 0; place < 8; place++) {
                weight *= told.habits[row[place]];
                weight *= place > 0 && row[place] == row[place - 1] ? told.like : 1;
                if (!free[place][row[place]]) {
                    return;
                }
                if (edge[place] > 0 && lost[place + 1][row[place + 1]] - lost[place][row[place]] < edge[place]) {
                    return;
                }
            }
            all += weight;
            for (int place = 0; place < 8; place++) {
                with[place][row[place]] += weight;
            }
            if (weight > best) {
                best = weight;
                likeliest = row.clone();
            }
        }
    }

    // ---- statues

    private static Told someTold(int number) {
        Told told = new Told();
        told.stuffs = number % 4 == 3 ? 2 + upTo(2) : 1;
        for (int i = 0; i < told.stuffs; i++) {
            told.stuff[i] = new int[] {1 + upTo(30), upTo(10), upTo(16), 1 + upTo(9)};
        }
        for (int quarter = 0; quarter < 4; quarter++) {
            told.rain[quarter] = upTo(4);
        }
        told.years = upTo(20);
        told.turn = upTo(4);
        told.like = 1 + upTo(9);
        int kept = 0;
        for (int stack = 0; stack < 21; stack++) {
            told.habits[stack] = upTo(8) == 0 ? 0 : 1 + upTo(number % 2 == 0 ? 2 : 9);
            if (told.isThere(stack) && told.habits[stack] > 0 && (kept == 4 || kept > 0 && upTo(2) == 0 && stack > 4)) {
                told.habits[stack] = 0;
            }
            kept += told.isThere(stack) && told.habits[stack] > 0 ? 1 : 0;
        }
        for (int cell = 0; cell < 48; cell++) {
            told.copy[cell] = upTo(told.stuffs + 1) - 1;
        }
        addTraces(told, number);
        return told;
    }

    /** Most traces are so by a row that can be; some are so by none. */
    private static void addTraces(Told told, int number) {
        int[] hidden = new int[48];
        for (int cell = 0; cell < 48; cell++) {
            do {
                hidden[cell] = upTo(21);
            } while (!told.isThere(hidden[cell]));
        }
        int hems = 1 + upTo(6);
        int count = upTo(21);
        for (int i = 0; i < 400 && told.traces.size() < count; i++) {
            int cell = upTo(8 * hems);
            int kind = upTo(7);
            int lost = told.left(cell, hidden[cell])[2];
            int v = kind == GRAIN ? upTo(told.stuffs) : kind == SHINES || kind == DARK ? upTo(4)
                    : kind == STANDS ? lost + upTo(3) : kind == WORN ? Math.max(0, lost - upTo(3)) : 0;
            boolean can = true;
            if (kind == EDGE) {
                can = cell % 8 != 7;
                v = can ? told.left(cell + 1, hidden[cell + 1])[2] - lost : 0;
                v = v < 1 && upTo(9) == 0 ? 1 : v;
                can &= v > 0;
            }
            if (can && (told.isSo(new int[] {cell, kind, v}, hidden[cell]) || upTo(number % 3 == 0 ? 4 : 40) == 0)) {
                told.traces.add(new int[] {cell, kind, v});
            }
        }
        for (int i = 0; i < told.traces.size(); i++) {
            told.asides |= upTo(9) == 0 ? 1 << i : 0;
        }
    }

    private static PaintedGods made(Told told) {
        PaintedGods x = new PaintedGods();
        for (int i = 0; i < told.stuffs; i++) {
            x.stuff(told.stuff[i][0], told.stuff[i][1], told.stuff[i][2], told.stuff[i][3]);
        }
        for (int quarter = 0; quarter < 4; quarter++) {
            x.put(quarter, told.rain[quarter]);
        }
        x.put(4, told.years);
        x.put(5, told.turn);
        x.put(6, told.like);
        for (int stack = 0; stack < 21; stack++) {
            x.habit(stack, told.habits[stack]);
        }
        for (int i = 0; i < told.traces.size(); i++) {
            int[] trace = told.traces.get(i);
            due("trace", x.trace(trace[0], trace[1], trace[2]), i);
        }
        for (int i = 0; i < told.traces.size(); i++) {
            if ((told.asides >> i & 1) == 1) {
                x.aside(i, true);
            }
        }
        for (int cell = 0; cell < 48; cell++) {
            x.copy(cell, told.copy[cell]);
        }
        return x;
    }

    // ---- questions

    private static void fraction(String what, PaintedGods x, BigInteger over, BigInteger under) {
        BigInteger common = over.gcd(under);
        limbs(what + ", above", x, 0, over.divide(common));
        limbs(what + ", below", x, 1, under.divide(common));
        due(what + ", sign", x.sign(0), over.signum());
    }

    private static void limbs(String what, PaintedGods x, int which, BigInteger want) {
        BigInteger got = BigInteger.ZERO;
        int count = x.sign(1 + which);
        for (int i = count - 1; i >= 0; i--) {
            got = got.shiftLeft(30).add(BigInteger.valueOf(x.limb(which, i)));
        }
        due(what + ", limbs", count, (want.bitLength() + 29) / 30);
        due(what + " " + got + " for " + want, got.equals(want) ? 1 : 0, 1);
    }

    private static void fraction(String what, PaintedGods x, int answer, long over, long all) {
        due(what, answer, all == 0 ? NO : 1);
        if (all != 0) {
            fraction(what, x, BigInteger.valueOf(over), BigInteger.valueOf(all));
        }
    }

    private static void askCell(Told told, Rows rows, int place) {
        PaintedGods x = made(told);
        int cell = 8 * rows.hem + place;
        long[] with = rows.with[place];
        long two = 0;
        long mean = 0;
        long top = 0;
        int least = 10;
        int most = -1;
        for (int stack = 0; stack < 21; stack++) {
            if (!told.isThere(stack)) {
                due("odds", x.odds(cell, stack), BAD);
                continue;
            }
            fraction("odds(" + cell + ", " + stack + ")", x, x.odds(cell, stack), with[stack], rows.all);
            two += stack > 4 ? with[stack] : 0;
            mean += with[stack] * told.bright(stack);
            top += told.top(stack) == told.copy[cell] ? with[stack] : 0;
            if (with[stack] > 0) {
                least = Math.min(least, told.bright(stack));
                most = Math.max(most, told.bright(stack));
            }
        }
        fraction("above(" + cell + ")", x, x.above(cell), two, rows.all);
        fraction("bright(" + cell + ", 2)", x, x.bright(cell, 2), mean, rows.all);
        due("bright(" + cell + ", 0)", x.bright(cell, 0), rows.all == 0 ? NO : least);
        due("bright(" + cell + ", 1)", x.bright(cell, 1), rows.all == 0 ? NO : most);
        int on = rows.all == 0 ? NO : top == rows.all ? 0 : 2 * top > rows.all ? 1 : top > 0 ? 2 : 3;
        due("rests(" + cell + ")", x.rests(cell), on);
        due("likeliest(" + rows.hem + ", " + place + ")", x.likeliest(rows.hem, place),
                rows.all == 0 ? NO : rows.likeliest[place]);
        int resting = 0;
        for (int other = 0; other < 8 && on != NO; other++) {
            resting += x.rests(8 * rows.hem + other) == on ? 1 : 0;
        }
        due("resting(" + rows.hem + ", " + on + ")", x.resting(rows.hem, Math.max(0, on)), on == NO ? NO : resting);
    }

    private static void askLater(Told told, PaintedGods x, Rows rows) {
        int own = 0;
        for (int i = 0; i < told.traces.size(); i++) {
            own |= (told.asides >> i & 1) == 0 && told.traces.get(i)[0] / 8 == rows.hem ? 1 << i : 0;
        }
        int found = rows.all > 0 ? 0 : -5;
        for (int count = 1; count <= 3 && found == -5; count++) {
            for (int bits = 1; bits <= own && found == -5; bits++) {
                if ((bits & ~own) == 0 && Integer.bitCount(bits) == count
                        && new Rows(told, rows.hem, told.asides | bits).all > 0) {
                    found = bits;
                }
            }
        }
        due("later(" + rows.hem + ")", x.later(rows.hem), found);
    }

    private static void askNext(Told told, PaintedGods x, Rows[] hems) {
        int found = NO;
        BigInteger offBy = null;
        BigInteger offOf = null;
        for (int cell = 0; cell < 48; cell++) {
            Rows rows = hems[cell / 8];
            for (int lamp = 0; lamp < 4 && rows.all > 0; lamp++) {
                long shining = 0;
                for (int stack : rows.stacks) {
                    shining += told.shines(cell, stack, lamp) ? rows.with[cell % 8][stack] : 0;
                }
                BigInteger off = BigInteger.valueOf(Math.abs(2 * shining - rows.all));
                BigInteger of = BigInteger.valueOf(rows.all);
                if (found == NO || off.multiply(offOf).compareTo(offBy.multiply(of)) < 0) {
                    found = 10 * cell + lamp;
                    offBy = off;
                    offOf = of;
                }
            }
        }
        due("next()", x.next(), found);
    }

    private static void askStood(Told told, PaintedGods x) {
        int turn = told.turn;
        BigInteger[] products = new BigInteger[4];
        BigInteger together = BigInteger.ZERO;
        for (told.turn = 0; told.turn < 4; told.turn++) {
            products[told.turn] = BigInteger.ONE;
            for (int hem = 0; hem < 6; hem++) {
                products[told.turn] = products[told.turn].multiply(BigInteger.valueOf(new Rows(told, hem, told.asides).all));
            }
            together = together.add(products[told.turn]);
        }
        told.turn = turn;
        for (int i = 0; i < 4; i++) {
            due("stood(" + i + ")", x.stood(i), together.signum() == 0 ? NO : 1);
            if (together.signum() != 0) {
                fraction("stood(" + i + ")", x, products[i], together);
            }
        }
    }

    private static void askSpan(Told told, PaintedGods x, int stuff) {
        int own = told.stuff[stuff][0];
        int least = -1;
        int most = -1;
        for (int thick = 1; thick <= 60; thick++) {
            told.stuff[stuff][0] = thick;
            boolean can = true;
            for (int hem = 0; hem < 6 && can; hem++) {
                can = new Rows(told, hem, told.asides).all > 0;
            }
            least = can && least < 0 ? thick : least;
            most = can ? thick : most;
        }
        told.stuff[stuff][0] = own;
        due("span(" + stuff + ", 0)", x.span(stuff, 0), least);
        due("span(" + stuff + ", 1)", x.span(stuff, 1), most);
    }

    private static void ask(int number) {
        Told told = someTold(number);
        PaintedGods x = made(told);
        Rows[] hems = new Rows[6];
        for (int hem = 0; hem < 6; hem++) {
            hems[hem] = new Rows(told, hem, told.asides);
            askLater(told, x, hems[hem]);
            for (int place = 0; place < 8; place++) {
                askCell(told, hems[hem], place);
            }
        }
        askNext(told, x, hems);
        askStood(told, x);
        if (hems[0].stacks.length < 4) {
            askSpan(told, x, upTo(told.stuffs));
        }
    }

    public static void main(String[] args) {
        int runs = args.length > 0 ? Integer.parseInt(args[0]) : 60;
        for (int number = 0; number < runs && wrong == 0; number++) {
            ask(number);
        }
        System.out.println(wrong == 0 ? "all " + asked + " answers are as due" : wrong + " answers are not as due");
        if (wrong != 0) {
            System.exit(1);
        }
    }
}
