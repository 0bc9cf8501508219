/** A statue of cells that were painted: which coats each cell can have had, by the traces that are left of them. */
public final class PaintedGods {
    public static final int NONE = -1, BAD = -2, NO = -3, FULL = -4;

    private static final int HEMS = 6, PLACES = 8, CELLS = 48, QUARTERS = 4, STUFFS = 4, LAMPS = 4, STACKS = 21;
    private static final int TRACES = 20, MOST_THICK = 60, MOST_LOST = 400, BYTES = 300, IMAGES = 2;
    private static final int YEARS = 4, TURN = 5, LIKE = 6, SETTINGS = 7;
    private static final int GRAIN = 0, SHINES = 1, DARK = 2, STANDS = 3, WORN = 4, EDGE = 5, CUT = 6;
    private static final int ON_TRACES = 0, ON_HABITS = 1, ON_WISHES = 2, ON_NOTHING = 3;
    private static final int BAD_COPY = -10, FAULT = -10, ITEM_REFUSED = -1000, THREE_DO_NOT_DO = -5;
    private static final int BARE_BRIGHT = 9;

    private final Statue now = new Statue();
    private final Statue spare = new Statue();
    private final Statue[] images = {new Statue(), new Statue()};
    private final boolean[] kept = new boolean[IMAGES];
    private final Text text = new Text();
    private final Weather weather = new Weather();
    private final Hem rows = new Hem();
    private final Fraction fraction = new Fraction();
    private final Whole product = new Whole();
    private final Whole chosen = new Whole();
    private final Whole sum = new Whole();
    private final int[] refusals = new int[3];

    public PaintedGods() {
    }

    // ---- a statue

    public int stuff(int thick, int bright, int shines, int least) {
        return told(now.addStuff(thick, bright, shines, least));
    }

    public int put(int what, int v) {
        return told(now.set(what, v));
    }

    public int habit(int stack, int weight) {
        return told(now.setHabit(stack, weight));
    }

    public int trace(int cell, int kind, int v) {
        return told(now.addTrace(cell, kind, v));
    }

    public int aside(int trace, boolean is) {
        return told(now.setAside(trace, is));
    }

    public int copy(int cell, int stuff) {
        int answer = now.paint(cell, stuff);
        if (answer == BAD_COPY) {
            told(BAD);
        }
        return answer;
    }

    public int type(long v, int n) {
        return told(text.write(v, n));
    }

    public int clear() {
        return text.wipe();
    }

    public int statue() {
        int answer = text.tell(spare);
        if (answer >= 0) {
            now.become(spare);
        }
        return answer;
    }

    // ---- coats that weather

    public int left(int cell, int stack, int what) {
        if (!isCell(cell) || !now.isStack(stack) || !within(what, 0, 2)) {
            return told(BAD);
        }
        int wear = now.wearOf(sideOf(cell));
        if (what == 0) {
            return now.groundLeft(stack, wear);
        }
        return what == 1 ? now.upperLeft(stack, wear) : now.stoneLost(stack, wear);
    }

    public int shines(int cell, int stack, int lamp) {
        if (!isCell(cell) || !now.isStack(stack) || !within(lamp, 0, LAMPS - 1)) {
            return told(BAD);
        }
        return now.lampsOf(stack, now.wearOf(sideOf(cell))) >> lamp & 1;
    }

    public int fits(int cell, int stack) {
        if (!isCell(cell) || !now.isStack(stack)) {
            return told(BAD);
        }
        lookAt(now, cell / PLACES);
        return rows.isFree(cell % PLACES, stack) ? 1 : 0;
    }

    // ---- odds

    public int odds(int cell, int stack) {
        if (!isCell(cell) || !now.isStack(stack)) {
            return told(BAD);
        }
        if (!reckonAround(cell)) {
            return told(NO);
        }
        fraction.setTo(rows.weightOf(cell % PLACES, stack), rows.all);
        return 1;
    }

    public int above(int cell) {
        if (!isCell(cell)) {
            return told(BAD);
        }
        if (!reckonAround(cell)) {
            return told(NO);
        }
        long weight = 0;
        for (int stack = 0; stack < STACKS; stack++) {
            if (upperOf(stack) != NONE) {
                weight += rows.weightOf(cell % PLACES, stack);
            }
        }
        fraction.setTo(weight, rows.all);
        return 1;
    }

    public int likeliest(int hem, int place) {
        if (!isHem(hem) || !within(place, 0, PLACES - 1)) {
            return told(BAD);
        }
        lookAt(now, hem);
        return rows.canBe(0) ? rows.likeliestAt(place) : told(NO);
    }

    public int stood(int turn) {
        if (!within(turn, 0, QUARTERS - 1)) {
            return told(BAD);
        }
        spare.become(now);
        sum.set(0);
        for (int other = 0; other < QUARTERS; other++) {
            spare.set(TURN, other);
            multiplyHems(spare);
            sum.add(product);
            if (other == turn) {
                chosen.become(product);
            }
        }
        if (sum.isZero()) {
            return told(NO);
        }
        fraction.setTo(chosen, sum);
        return 1;
    }

    public int span(int stuff, int what) {
        if (!now.isStuff(stuff) || !within(what, 0, 1)) {
            return told(BAD);
        }
        spare.become(now);
        for (int i = 0; i < MOST_THICK; i++) {
            int thick = what == 0 ? 1 + i : MOST_THICK - i;
            spare.thick[stuff] = thick;
            if (allHemsCanBe(spare)) {
                return thick;
            }
        }
        return NONE;
    }

    public int later(int hem) {
        if (!isHem(hem)) {
            return told(BAD);
        }
        lookAt(now, hem);
        return rows.fewestLater();
    }

    public int next() {
        int found = NONE;
        long offBy = 0;
        long offOf = 0;
        for (int hem = 0; hem < HEMS; hem++) {
            if (reckonAround(hem * PLACES)) {
                rows.seekHalf(weather);
                if (found == NONE || isLess(rows.halfOff, offOf, offBy, rows.all)) {
                    found = 10 * hem * PLACES + rows.halfAt;
                    offBy = rows.halfOff;
                    offOf = rows.all;
                }
            }
        }
        return found == NONE ? told(NO) : found;
    }

    public int rests(int cell) {
        if (!isCell(cell)) {
            return told(BAD);
        }
        return reckonAround(cell) ? restsOn(cell) : told(NO);
    }

    public int resting(int hem, int what) {
        if (!isHem(hem) || !within(what, ON_TRACES, ON_NOTHING)) {
            return told(BAD);
        }
        if (!reckonAround(hem * PLACES)) {
            return told(NO);
        }
        int found = 0;
        for (int place = 0; place < PLACES; place++) {
            if (restsOn(hem * PLACES + place) == what) {
                found++;
            }
        }
        return found;
    }

    public int bright(int cell, int what) {
        if (!isCell(cell) || !within(what, 0, 2)) {
            return told(BAD);
        }
        if (!reckonAround(cell)) {
            return told(NO);
        }
        return what == 2 ? meanBright(cell % PLACES) : farthestBright(cell % PLACES, what == 1);
    }

    // ---- what there is

    public int sign(int what) {
        if (!within(what, 0, 2)) {
            return told(BAD);
        }
        if (what == 0) {
            return fraction.over.isZero() ? 0 : 1;
        }
        return what == 1 ? fraction.over.length : fraction.under.length;
    }

    public int limb(int which, int i) {
        if (!within(which, 0, 1) || i < 0) {
            return told(BAD);
        }
        return which == 0 ? fraction.over.digit(i) : fraction.under.digit(i);
    }

    public int image(int i) {
        if (!within(i, 0, IMAGES - 1)) {
            return told(BAD);
        }
        images[i].become(now);
        kept[i] = true;
        return 1;
    }

    public int from(int i) {
        if (!within(i, 0, IMAGES - 1)) {
            return told(BAD);
        }
        if (!kept[i]) {
            return told(NO);
        }
        now.become(images[i]);
        return 1;
    }

    public int status(int what) {
        if (!within(what, 0, 2)) {
            told(BAD);
            return -1;
        }
        return refusals[what];
    }

    public int count(int what) {
        switch (what) {
            case 0: return now.stuffs;
            case 1: return now.traces;
            case 2: return now.countAside();
            case 3: return text.length;
            default: return told(BAD);
        }
    }

    public long digest() {
        long h = 557;
        h = 31 * h + now.stuffs;
        h = 31 * h + now.traces;
        h = 31 * h + now.countAside();
        h = 31 * h + text.length;
        h = now.mix(h);
        h = 31 * h + (fraction.over.isZero() ? 0 : 1);
        h = 31 * h + fraction.over.length;
        h = 31 * h + fraction.under.length;
        h = fraction.over.mix(h);
        return fraction.under.mix(h);
    }

    // ---- what these share

    private int told(int answer) {
        if (answer <= BAD && answer >= FULL) {
            refusals[BAD - answer]++;
        }
        return answer;
    }

    private void lookAt(Statue statue, int hem) {
        weather.take(statue);
        rows.look(statue, weather, hem);
    }

    private boolean reckonAround(int cell) {
        lookAt(now, cell / PLACES);
        rows.reckon();
        return rows.all != 0;
    }

    private void multiplyHems(Statue statue) {
        product.set(1);
        weather.take(statue);
        for (int hem = 0; hem < HEMS && !product.isZero(); hem++) {
            rows.look(statue, weather, hem);
            rows.reckonAhead();
            product.multiply(rows.all);
        }
    }

    private boolean allHemsCanBe(Statue statue) {
        weather.take(statue);
        for (int hem = 0; hem < HEMS; hem++) {
            rows.look(statue, weather, hem);
            if (!rows.canBe(0)) {
                return false;
            }
        }
        return true;
    }

    private int restsOn(int cell) {
        long onTop = 0;
        for (int stack = 0; stack < STACKS; stack++) {
            if (topOf(stack) == now.copies[cell]) {
                onTop += rows.weightOf(cell % PLACES, stack);
            }
        }
        if (onTop == rows.all) {
            return ON_TRACES;
        }
        if (isLess(rows.all - onTop, onTop)) {
            return ON_HABITS;
        }
        return onTop != 0 ? ON_WISHES : ON_NOTHING;
    }

    private int farthestBright(int place, boolean greatest) {
        int found = NONE;
        for (int stack = 0; stack < STACKS; stack++) {
            if (rows.weightOf(place, stack) != 0) {
                int bright = now.brightOf(stack);
                if (found == NONE || (greatest ? bright > found : bright < found)) {
                    found = bright;
                }
            }
        }
        return found;
    }

    private int meanBright(int place) {
        sum.set(0);
        for (int stack = 0; stack < STACKS; stack++) {
            sum.addTimes(rows.weightOf(place, stack), now.brightOf(stack));
        }
        chosen.set(rows.all);
        fraction.setTo(sum, chosen);
        return 1;
    }

    private static boolean within(int v, int least, int most) {
        return v >= least && v <= most;
    }

    private static boolean isCell(int cell) {
        return within(cell, 0, CELLS - 1);
    }

    private static int sideOf(int cell) {
        return cell % PLACES / 2;
    }

    private static boolean isHem(int hem) {
        return within(hem, 0, HEMS - 1);
    }

    private static int groundOf(int stack) {
        if (stack <= 0) {
            return NONE;
        }
        return stack <= STUFFS ? stack - 1 : (stack - 1 - STUFFS) / STUFFS;
    }

    private static int upperOf(int stack) {
        return stack <= STUFFS ? NONE : (stack - 1 - STUFFS) % STUFFS;
    }

    private static int topOf(int stack) {
        int upper = upperOf(stack);
        return upper == NONE ? groundOf(stack) : upper;
    }

    // ALL can pass the greatest long, but not 64 bits (189 * 261 to the 7th at most): it is read without a sign.
    private static boolean isLess(long a, long b) {
        return (a ^ 1L << 63) < (b ^ 1L << 63);
    }

    /** Whether a times b is less than c times d, all without a sign. */
    private static boolean isLess(long a, long b, long c, long d) {
        long high = highBits(a, b);
        long otherHigh = highBits(c, d);
        return high == otherHigh ? isLess(a * b, c * d) : isLess(high, otherHigh);
    }

    private static long highBits(long a, long b) {
        long low = 0xFFFFFFFFL;
        long middle = (a >>> 32) * (b & low) + ((a & low) * (b & low) >>> 32);
        long other = (a & low) * (b >>> 32) + (middle & low);
        return (a >>> 32) * (b >>> 32) + (middle >>> 32) + (other >>> 32);
    }

    /** What is told of the statue: stuffs, weather, habits, traces and the copy. */
    private static final class Statue {
        private static final int[] LEAST_SET = {0, 0, 0, 0, 0, 0, 1};
        private static final int[] MOST_SET = {5, 5, 5, 5, 60, 3, 9};
        private static final int[] FIRST_SET = {1, 1, 1, 1, 10, 0, 3};

        final int[] thick = new int[STUFFS];
        final int[] brightness = new int[STUFFS];
        final int[] lamps = new int[STUFFS];
        final int[] least = new int[STUFFS];
        final int[] settings = new int[SETTINGS];
        final int[] habits = new int[STACKS];
        final int[] cells = new int[TRACES];
        final int[] kinds = new int[TRACES];
        final int[] values = new int[TRACES];
        final int[] asides = new int[TRACES];
        final int[] copies = new int[CELLS];
        int stuffs;
        int traces;

        Statue() {
            beAtFirst();
        }

        void beAtFirst() {
            stuffs = 0;
            traces = 0;
            System.arraycopy(FIRST_SET, 0, settings, 0, SETTINGS);
            for (int stack = 0; stack < STACKS; stack++) {
                habits[stack] = 1;
            }
            for (int cell = 0; cell < CELLS; cell++) {
                copies[cell] = NONE;
            }
        }

        void become(Statue other) {
            stuffs = other.stuffs;
            traces = other.traces;
            System.arraycopy(other.thick, 0, thick, 0, STUFFS);
            System.arraycopy(other.brightness, 0, brightness, 0, STUFFS);
            System.arraycopy(other.lamps, 0, lamps, 0, STUFFS);
            System.arraycopy(other.least, 0, least, 0, STUFFS);
            System.arraycopy(other.settings, 0, settings, 0, SETTINGS);
            System.arraycopy(other.habits, 0, habits, 0, STACKS);
            System.arraycopy(other.cells, 0, cells, 0, TRACES);
            System.arraycopy(other.kinds, 0, kinds, 0, TRACES);
            System.arraycopy(other.values, 0, values, 0, TRACES);
            System.arraycopy(other.asides, 0, asides, 0, TRACES);
            System.arraycopy(other.copies, 0, copies, 0, CELLS);
        }

        int addStuff(int thickness, int bright, int shining, int leastLeft) {
            if (!within(thickness, 1, MOST_THICK) || !within(bright, 0, 9)
                    || !within(shining, 0, (1 << LAMPS) - 1) || !within(leastLeft, 1, 9)) {
                return BAD;
            }
            if (stuffs >= STUFFS) {
                return FULL;
            }
            thick[stuffs] = thickness;
            brightness[stuffs] = bright;
            lamps[stuffs] = shining;
            least[stuffs] = leastLeft;
            return stuffs++;
        }

        int set(int what, int v) {
            if (!within(what, 0, SETTINGS - 1) || !within(v, LEAST_SET[what], MOST_SET[what])) {
                return BAD;
            }
            int old = settings[what];
            settings[what] = v;
            return old;
        }

        int setHabit(int stack, int weight) {
            if (!within(stack, 0, STACKS - 1) || !within(weight, 0, 9)) {
                return BAD;
            }
            int old = habits[stack];
            habits[stack] = weight;
            return old;
        }

        int addTrace(int cell, int kind, int v) {
            if (!isCell(cell) || !canTell(cell, kind, v)) {
                return BAD;
            }
            if (traces >= TRACES) {
                return FULL;
            }
            cells[traces] = cell;
            kinds[traces] = kind;
            values[traces] = v;
            asides[traces] = 0;
            return traces++;
        }

        private boolean canTell(int cell, int kind, int v) {
            switch (kind) {
                case GRAIN: return isStuff(v);
                case SHINES:
                case DARK: return within(v, 0, LAMPS - 1);
                case STANDS:
                case WORN: return within(v, 0, MOST_LOST);
                case EDGE: return within(v, 1, MOST_LOST) && cell % PLACES != PLACES - 1;
                case CUT: return v == 0;
                default: return false;
            }
        }

        int setAside(int trace, boolean is) {
            if (!within(trace, 0, traces - 1)) {
                return BAD;
            }
            int wanted = is ? 1 : 0;
            if (asides[trace] == wanted) {
                return NO;
            }
            asides[trace] = wanted;
            return 1;
        }

        int paint(int cell, int stuff) {
            if (!isCell(cell) || stuff != NONE && !isStuff(stuff)) {
                return BAD_COPY;
            }
            int old = copies[cell];
            copies[cell] = stuff;
            return old;
        }

        boolean isStuff(int stuff) {
            return stuff >= 0 && stuff < stuffs && stuff < STUFFS;
        }

        boolean isStack(int stack) {
            return within(stack, 0, STACKS - 1) && groundOf(stack) < stuffs && upperOf(stack) < stuffs;
        }

        int countAside() {
            int found = 0;
            for (int trace = 0; trace < traces; trace++) {
                found += asides[trace];
            }
            return found;
        }

        int wearOf(int side) {
            return settings[YEARS] * settings[(side + settings[TURN]) % QUARTERS];
        }

        private int thickOf(int stuff) {
            return stuff >= 0 && stuff < STUFFS ? thick[stuff] : 0;
        }

        int upperLeft(int stack, int wear) {
            return Math.max(0, thickOf(upperOf(stack)) - wear);
        }

        int groundLeft(int stack, int wear) {
            int ground = thickOf(groundOf(stack));
            return Math.min(ground, Math.max(0, ground + thickOf(upperOf(stack)) - wear));
        }

        int stoneLost(int stack, int wear) {
            return Math.max(0, wear - thickOf(groundOf(stack)) - thickOf(upperOf(stack)));
        }

        int lampsOf(int stack, int wear) {
            return lampsOfCoat(groundOf(stack), groundLeft(stack, wear))
                    | lampsOfCoat(upperOf(stack), upperLeft(stack, wear));
        }

        private int lampsOfCoat(int stuff, int remains) {
            return isStuff(stuff) && remains >= least[stuff] ? lamps[stuff] : 0;
        }

        /** The stuffs of which something is left, as bits. */
        int grainsOf(int stack, int wear) {
            int ground = groundLeft(stack, wear) > 0 ? 1 << groundOf(stack) : 0;
            int upper = upperLeft(stack, wear) > 0 ? 1 << upperOf(stack) : 0;
            return ground | upper;
        }

        int brightOf(int stack) {
            int top = topOf(stack);
            return isStuff(top) ? brightness[top] : BARE_BRIGHT;
        }

        long mix(long start) {
            long h = start;
            for (int stuff = 0; stuff < stuffs; stuff++) {
                h = 31 * h + thick[stuff];
                h = 31 * h + brightness[stuff];
                h = 31 * h + lamps[stuff];
                h = 31 * h + least[stuff];
            }
            for (int what = 0; what < SETTINGS; what++) {
                h = 31 * h + settings[what];
            }
            for (int stack = 0; stack < STACKS; stack++) {
                h = 31 * h + habits[stack];
            }
            for (int trace = 0; trace < traces; trace++) {
                h = 31 * h + cells[trace];
                h = 31 * h + kinds[trace];
                h = 31 * h + values[trace];
                h = 31 * h + asides[trace];
            }
            for (int cell = 0; cell < CELLS; cell++) {
                h = 31 * h + copies[cell];
            }
            return h;
        }
    }

    /** What the wear leaves of each stack that is there, by sides: all hems weather alike. */
    private static final class Weather {
        final int[][] lost = new int[QUARTERS][STACKS];
        final int[][] lamps = new int[QUARTERS][STACKS];
        final int[][] grains = new int[QUARTERS][STACKS];

        void take(Statue statue) {
            for (int side = 0; side < QUARTERS; side++) {
                int wear = statue.wearOf(side);
                for (int stack = 0; stack < STACKS; stack++) {
                    if (statue.isStack(stack)) {
                        lost[side][stack] = statue.stoneLost(stack, wear);
                        lamps[side][stack] = statue.lampsOf(stack, wear);
                        grains[side][stack] = statue.grainsOf(stack, wear);
                    }
                }
            }
        }

        /** Whether a trace is so by a stack of its own cell; an edge asks for two cells, so it is none of these. */
        boolean isSo(int kind, int v, int side, int stack) {
            switch (kind) {
                case GRAIN: return (grains[side][stack] >> v & 1) == 1;
                case SHINES: return (lamps[side][stack] >> v & 1) == 1;
                case DARK: return (lamps[side][stack] >> v & 1) == 0;
                case STANDS: return lost[side][stack] <= v;
                case WORN: return lost[side][stack] >= v;
                case CUT: return stack != 0;
                default: return true;
            }
        }
    }

    /** The rows of stacks of one hem, and their weights. */
    private static final class Hem {
        // A stack that no row has, whatever is set aside: it stands behind the bits of the traces.
        private static final int NEVER = 1 << TRACES;

        final int[] weights = new int[STACKS];
        final int[][] broken = new int[PLACES][STACKS];
        final int[][] lost = new int[PLACES][STACKS];
        final int[] edgePlaces = new int[TRACES];
        final int[] edgeSteps = new int[TRACES];
        final int[] steps = new int[PLACES];
        final long[][] ahead = new long[PLACES][STACKS];
        final long[][] behind = new long[PLACES][STACKS];
        final long[][] most = new long[PLACES][STACKS];
        final long[] parts = new long[STACKS];
        final long[] lampWeights = new long[LAMPS];
        long partsTogether;
        long all;
        long halfOff;
        int halfAt;
        int like;
        int ownTraces;

        /** Takes from the statue which traces each stack breaks in each place. */
        void look(Statue statue, Weather weather, int hem) {
            like = statue.settings[LIKE];
            for (int stack = 0; stack < STACKS; stack++) {
                weights[stack] = statue.isStack(stack) ? statue.habits[stack] : 0;
            }
            for (int place = 0; place < PLACES; place++) {
                for (int stack = 0; stack < STACKS; stack++) {
                    lost[place][stack] = weather.lost[sideOf(place)][stack];
                    broken[place][stack] = weights[stack] == 0 ? NEVER : 0;
                }
            }
            ownTraces = 0;
            for (int trace = 0; trace < TRACES; trace++) {
                edgePlaces[trace] = NONE;
                if (trace < statue.traces && statue.asides[trace] == 0 && statue.cells[trace] / PLACES == hem) {
                    lookAtTrace(statue, weather, trace);
                }
            }
            findSteps(0);
        }

        private void lookAtTrace(Statue statue, Weather weather, int trace) {
            int place = statue.cells[trace] % PLACES;
            int kind = statue.kinds[trace];
            ownTraces |= 1 << trace;
            if (kind == EDGE) {
                edgePlaces[trace] = place;
                edgeSteps[trace] = statue.values[trace];
                return;
            }
            for (int stack = 0; stack < STACKS; stack++) {
                if (!weather.isSo(kind, statue.values[trace], sideOf(place), stack)) {
                    broken[place][stack] |= 1 << trace;
                }
            }
        }

        /** Whether a stack breaks no trace in a place, whatever its weight is. */
        boolean isFree(int place, int stack) {
            return (broken[place][stack] & ~NEVER) == 0;
        }

        /** How much more is lost at each place's next one, at least, by the edges but the skipped; 0: there is none. */
        private void findSteps(int skipped) {
            for (int place = 0; place < PLACES; place++) {
                steps[place] = 0;
            }
            for (int trace = 0; trace < TRACES; trace++) {
                int place = edgePlaces[trace];
                if (within(place, 0, PLACES - 1) && (skipped >> trace & 1) == 0) {
                    steps[place] = Math.max(steps[place], edgeSteps[trace]);
                }
            }
        }

        /**
         * Whether a row has a weight if the skipped traces are not looked at. Of the stacks of a place only the
         * least that is lost matters for the next place: edges alone bind two places, and by what is lost.
         */
        boolean canBe(int skipped) {
            findSteps(skipped);
            int wanted = 0;
            for (int place = 0; place < PLACES; place++) {
                int leastLost = NONE;
                for (int stack = 0; stack < STACKS; stack++) {
                    int here = lost[place][stack];
                    if ((broken[place][stack] & ~skipped) == 0 && here >= wanted
                            && (leastLost == NONE || here < leastLost)) {
                        leastLost = here;
                    }
                }
                if (leastLost == NONE) {
                    return false;
                }
                wanted = steps[place] == 0 ? 0 : leastLost + steps[place];
            }
            return true;
        }

        /** The fewest traces without which a row can be, the least as bits: the highest trace counts most. */
        int fewestLater() {
            if (canBe(0)) {
                return 0;
            }
            for (int count = 1; count <= 3; count++) {
                int found = laterOf(count);
                if (found != 0) {
                    return found;
                }
            }
            return THREE_DO_NOT_DO;
        }

        private int laterOf(int count) {
            for (int high = 0; high < TRACES; high++) {
                int first = ownTraces & 1 << high;
                if (first != 0 && count == 1 && canBe(first)) {
                    return first;
                }
                for (int middle = 0; middle < high && first != 0 && count > 1; middle++) {
                    int second = ownTraces & 1 << middle;
                    if (second != 0 && count == 2 && canBe(first | second)) {
                        return first | second;
                    }
                    for (int low = 0; low < middle && second != 0 && count > 2; low++) {
                        int third = ownTraces & 1 << low;
                        if (third != 0 && canBe(first | second | third)) {
                            return first | second | third;
                        }
                    }
                }
            }
            return 0;
        }

        void reckon() {
            reckonAhead();
            reckonBehind();
        }

        /** The weights of what stands ahead of each stack in its place, and of all rows together. */
        void reckonAhead() {
            for (int stack = 0; stack < STACKS; stack++) {
                ahead[0][stack] = 1;
            }
            for (int place = 1; place < PLACES; place++) {
                weighParts(place - 1, ahead[place - 1]);
                for (int stack = 0; stack < STACKS; stack++) {
                    ahead[place][stack] = partsBeside(stack, place - 1, true);
                }
            }
            weighParts(PLACES - 1, ahead[PLACES - 1]);
            all = partsTogether;
        }

        private void reckonBehind() {
            for (int stack = 0; stack < STACKS; stack++) {
                behind[PLACES - 1][stack] = 1;
            }
            for (int place = PLACES - 2; place >= 0; place--) {
                weighParts(place + 1, behind[place + 1]);
                for (int stack = 0; stack < STACKS; stack++) {
                    behind[place][stack] = partsBeside(stack, place, false);
                }
            }
        }

        private void weighParts(int place, long[] beyond) {
            partsTogether = 0;
            for (int stack = 0; stack < STACKS; stack++) {
                parts[stack] = broken[place][stack] == 0 ? weights[stack] * beyond[stack] : 0;
                partsTogether += parts[stack];
            }
        }

        /** The weighed parts that can stand beside a stack, where place and the next one meet. */
        private long partsBeside(int stack, int place, boolean isNext) {
            if (steps[place] == 0) {
                return partsTogether + (like - 1) * parts[stack];
            }
            long found = 0;
            for (int other = 0; other < STACKS; other++) {
                found += parts[other] * (isNext ? joint(place, other, stack) : joint(place, stack, other));
            }
            return found;
        }

        private int joint(int place, int here, int there) {
            if (place + 1 < PLACES && steps[place] != 0
                    && lost[place + 1][there] - lost[place][here] < steps[place]) {
                return 0;
            }
            return here == there ? like : 1;
        }

        /** The weight of the rows with a stack in a place. */
        long weightOf(int place, int stack) {
            if (broken[place][stack] != 0) {
                return 0;
            }
            return ahead[place][stack] * weights[stack] * behind[place][stack];
        }

        /** The stack in a place of the likeliest row: each place has the first stack that keeps the most weight. */
        int likeliestAt(int wanted) {
            reckonMost();
            int stack = NONE;
            for (int place = 0; place <= wanted && place < PLACES; place++) {
                stack = bestNext(place, stack);
            }
            return stack;
        }

        private void reckonMost() {
            for (int place = PLACES - 1; place >= 0; place--) {
                for (int stack = 0; stack < STACKS; stack++) {
                    long beyond = place == PLACES - 1 ? 1 : mostNext(place + 1, bestNext(place + 1, stack), stack);
                    most[place][stack] = broken[place][stack] == 0 ? weights[stack] * beyond : 0;
                }
            }
        }

        private int bestNext(int place, int before) {
            int best = 0;
            for (int stack = 1; stack < STACKS; stack++) {
                if (mostNext(place, stack, before) > mostNext(place, best, before)) {
                    best = stack;
                }
            }
            return best;
        }

        private long mostNext(int place, int stack, int before) {
            if (place == 0 || before == NONE) {
                return most[place][stack];
            }
            return most[place][stack] * joint(place - 1, before, stack);
        }

        /** Seeks the place and lamp with which it shines nearest to half of the weights. */
        void seekHalf(Weather weather) {
            halfAt = NONE;
            for (int place = 0; place < PLACES; place++) {
                weighLamps(weather, place);
                for (int lamp = 0; lamp < LAMPS; lamp++) {
                    long shining = lampWeights[lamp];
                    long dark = all - shining;
                    long off = isLess(shining, dark) ? dark - shining : shining - dark;
                    if (halfAt == NONE || isLess(off, halfOff)) {
                        halfAt = 10 * place + lamp;
                        halfOff = off;
                    }
                }
            }
        }

        private void weighLamps(Weather weather, int place) {
            for (int lamp = 0; lamp < LAMPS; lamp++) {
                lampWeights[lamp] = 0;
            }
            for (int stack = 0; stack < STACKS; stack++) {
                long weight = weightOf(place, stack);
                int shining = weather.lamps[sideOf(place)][stack];
                for (int lamp = 0; lamp < LAMPS; lamp++) {
                    lampWeights[lamp] += (shining >> lamp & 1) * weight;
                }
            }
        }
    }

    /** The text, and what it tells a statue. */
    private static final class Text {
        private static final String WORDS =
                "stuff rain years turn like habit grain shines dark stands worn edge cut copy ";
        private static final int STUFF_WORD = 0, RAIN_WORD = 1, YEARS_WORD = 2, TURN_WORD = 3, LIKE_WORD = 4;
        private static final int HABIT_WORD = 5, GRAIN_WORD = 6, CUT_WORD = 12, COPY_WORD = 13;
        private static final int[] NUMBERS_BEHIND = {4, 2, 1, 1, 1, 2, 2, 2, 2, 2, 2, 2, 1, 2};
        private static final int END = 0, WORD = 1, NUMBER = 2, SEMICOLON = 3, WRONG = 4;
        private static final int MOST_FIGURES = 3;

        final byte[] bytes = new byte[BYTES];
        final int[] numbers = new int[4];
        int length;
        int at;
        int token;
        int tokenStart;
        int tokenValue;

        int write(long v, int n) {
            if (!within(n, 1, 8)) {
                return BAD;
            }
            if (length + n > BYTES) {
                return FULL;
            }
            for (int i = n - 1; i >= 0; i--) {
                bytes[length++] = (byte) (v >>> 8 * i);
            }
            return length;
        }

        int wipe() {
            int old = length;
            length = 0;
            return old;
        }

        /** Tells a statue, as at first, all items: how many; or why it can not be so, a fault ahead of a refusal. */
        int tell(Statue statue) {
            statue.beAtFirst();
            int items = 0;
            int refused = NONE;
            at = 0;
            readToken();
            for (int i = 0; i < BYTES && token != END; i++) {
                int word = token == WORD ? tokenValue : NONE;
                if (!readItem()) {
                    return FAULT - tokenStart;
                }
                if (refused == NONE && !tellItem(statue, word)) {
                    refused = items;
                }
                items++;
                readToken();
            }
            return refused == NONE ? items : ITEM_REFUSED - refused;
        }

        /** Reads an item from its word to its semicolon, as far as its tokens can stand there. */
        private boolean readItem() {
            if (token != WORD || !within(tokenValue, 0, NUMBERS_BEHIND.length - 1)) {
                return false;
            }
            int wanted = NUMBERS_BEHIND[tokenValue];
            for (int i = 0; i < wanted && i < numbers.length; i++) {
                readToken();
                if (token != NUMBER) {
                    return false;
                }
                numbers[i] = tokenValue;
            }
            readToken();
            return token == SEMICOLON;
        }

        private boolean tellItem(Statue statue, int word) {
            return answerTo(statue, word) >= NONE;
        }

        private int answerTo(Statue statue, int word) {
            switch (word) {
                case STUFF_WORD: return statue.addStuff(numbers[0], numbers[1], numbers[2], numbers[3]);
                case RAIN_WORD: return numbers[0] < QUARTERS ? statue.set(numbers[0], numbers[1]) : BAD;
                case YEARS_WORD: return statue.set(YEARS, numbers[0]);
                case TURN_WORD: return statue.set(TURN, numbers[0]);
                case LIKE_WORD: return statue.set(LIKE, numbers[0]);
                case HABIT_WORD: return statue.setHabit(numbers[0], numbers[1]);
                case CUT_WORD: return statue.addTrace(numbers[0], CUT, 0);
                case COPY_WORD: return statue.paint(numbers[0], numbers[1]);
                default: return statue.addTrace(numbers[0], word - GRAIN_WORD, numbers[1]);
            }
        }

        private void readToken() {
            while (at < length && byteAt(at) == ' ') {
                at++;
            }
            tokenStart = at;
            int first = byteAt(at);
            if (at >= length) {
                token = END;
            } else if (isLetter(first)) {
                readWord();
            } else if (isFigure(first)) {
                readNumber();
            } else {
                token = first == ';' ? SEMICOLON : WRONG;
                at++;
            }
        }

        private void readWord() {
            while (at < length && isLetter(byteAt(at))) {
                at++;
            }
            tokenValue = wordFrom(tokenStart);
            token = tokenValue == NONE ? WRONG : WORD;
        }

        private void readNumber() {
            tokenValue = 0;
            while (at < length && isFigure(byteAt(at))) {
                if (at - tokenStart < MOST_FIGURES) {
                    tokenValue = 10 * tokenValue + byteAt(at) - '0';
                }
                at++;
            }
            token = at - tokenStart > MOST_FIGURES ? WRONG : NUMBER;
        }

        /** Which word stands from a byte of the text to where it has been read. */
        private int wordFrom(int start) {
            int number = 0;
            int matched = 0;
            boolean alike = true;
            for (int i = 0; i < WORDS.length(); i++) {
                char letter = WORDS.charAt(i);
                if (letter == ' ') {
                    if (alike && matched == at - start) {
                        return number;
                    }
                    number++;
                    matched = 0;
                    alike = true;
                } else {
                    alike = alike && matched < at - start && byteAt(start + matched) == letter;
                    matched++;
                }
            }
            return NONE;
        }

        private int byteAt(int i) {
            return i >= 0 && i < BYTES ? bytes[i] & 255 : 0;
        }

        private static boolean isLetter(int b) {
            return within(b, 'a', 'z');
        }

        private static boolean isFigure(int b) {
            return within(b, '0', '9');
        }
    }

    /** A fraction in its lowest terms. */
    private static final class Fraction {
        final Whole over = new Whole();
        final Whole under = new Whole();
        private final Whole greater = new Whole();
        private final Whole smaller = new Whole();

        Fraction() {
            under.set(1);
        }

        void setTo(long newOver, long newUnder) {
            over.set(newOver);
            under.set(newUnder);
            reduce();
        }

        void setTo(Whole newOver, Whole newUnder) {
            over.become(newOver);
            under.become(newUnder);
            reduce();
        }

        private void reduce() {
            if (over.isZero()) {
                under.set(1);
                return;
            }
            int twos = Math.min(over.twos(), under.twos());
            over.shiftDown(twos);
            under.shiftDown(twos);
            findCommon();
            over.divideExactly(greater);
            under.divideExactly(greater);
        }

        /** The greatest common divisor, which is odd now: without its own twos each number keeps it. */
        private void findCommon() {
            greater.become(over);
            smaller.become(under);
            greater.shiftDown(greater.twos());
            smaller.shiftDown(smaller.twos());
            for (int i = 0; i < 2 * Whole.BITS * Whole.SIZE; i++) {
                int order = greater.compareWith(smaller);
                if (order == 0) {
                    return;
                }
                Whole taken = order > 0 ? greater : smaller;
                taken.subtract(order > 0 ? smaller : greater);
                taken.shiftDown(taken.twos());
            }
        }
    }

    /** A whole number of many limbs, 0 or above; 6 HEMS of 64 bits each and some more have room. */
    private static final class Whole {
        static final int BITS = 30, SIZE = 16, MASK = (1 << 30) - 1, LONG_LIMBS = 3;

        final int[] limbs = new int[SIZE];
        final int[] result = new int[SIZE];
        int length;

        boolean isZero() {
            return length == 0;
        }

        int digit(int i) {
            return within(i, 0, length - 1) ? limbs[i] : NONE;
        }

        /** Takes all 64 bits as a number without a sign. */
        void set(long v) {
            for (int i = 0; i < SIZE; i++) {
                limbs[i] = 0;
            }
            addTimes(v, 1);
        }

        void become(Whole other) {
            System.arraycopy(other.limbs, 0, limbs, 0, SIZE);
            length = other.length;
        }

        void add(Whole other) {
            int carry = 0;
            for (int i = 0; i < SIZE; i++) {
                carry += limbs[i] + other.limbs[i];
                limbs[i] = carry & MASK;
                carry >>>= BITS;
            }
            measure();
        }

        void addTimes(long v, int factor) {
            long rest = v;
            long carry = 0;
            for (int i = 0; i < SIZE; i++) {
                carry += limbs[i] + (rest & MASK) * factor;
                limbs[i] = (int) (carry & MASK);
                carry >>>= BITS;
                rest >>>= BITS;
            }
            measure();
        }

        /** By a number of 64 bits without a sign. */
        void multiply(long factor) {
            for (int i = 0; i < SIZE; i++) {
                result[i] = 0;
            }
            for (int low = 0; low < LONG_LIMBS; low++) {
                long digit = factor >>> low * BITS & MASK;
                long carry = 0;
                for (int i = 0; i + low < SIZE; i++) {
                    carry += result[i + low] + digit * limbs[i];
                    result[i + low] = (int) (carry & MASK);
                    carry >>>= BITS;
                }
            }
            System.arraycopy(result, 0, limbs, 0, SIZE);
            measure();
        }

        int compareWith(Whole other) {
            if (length != other.length) {
                return length < other.length ? -1 : 1;
            }
            for (int i = SIZE - 1; i >= 0; i--) {
                if (limbs[i] != other.limbs[i]) {
                    return limbs[i] < other.limbs[i] ? -1 : 1;
                }
            }
            return 0;
        }

        /** By one that is not greater. */
        void subtract(Whole other) {
            int borrow = 0;
            for (int i = 0; i < SIZE; i++) {
                borrow += limbs[i] - other.limbs[i];
                limbs[i] = borrow & MASK;
                borrow >>= BITS;
            }
            measure();
        }

        int twos() {
            for (int i = 0; i < length && i < SIZE; i++) {
                if (limbs[i] != 0) {
                    return i * BITS + Integer.bitCount((limbs[i] & -limbs[i]) - 1);
                }
            }
            return 0;
        }

        void shiftDown(int bits) {
            if (bits <= 0) {
                return;
            }
            int whole = bits / BITS;
            int rest = bits % BITS;
            for (int i = 0; i < SIZE; i++) {
                long low = i + whole < SIZE ? limbs[i + whole] : 0;
                long high = i + whole + 1 < SIZE ? limbs[i + whole + 1] : 0;
                limbs[i] = (int) ((high << BITS | low) >>> rest & MASK);
            }
            measure();
        }

        /** By an odd divisor without a rest: the lowest limb alone tells each limb of the answer. */
        void divideExactly(Whole divisor) {
            int odd = divisor.limbs[0];
            int inverse = odd;
            for (int right = 3; right < BITS; right *= 2) {
                inverse *= 2 - odd * inverse;
            }
            for (int low = 0; low < SIZE; low++) {
                int digit = limbs[low] * inverse & MASK;
                long borrow = 0;
                for (int i = 0; i + low < SIZE; i++) {
                    borrow += limbs[i + low] - (long) digit * divisor.limbs[i];
                    limbs[i + low] = (int) (borrow & MASK);
                    borrow >>= BITS;
                }
                result[low] = digit;
            }
            System.arraycopy(result, 0, limbs, 0, SIZE);
            measure();
        }

        long mix(long start) {
            long h = start;
            for (int i = 0; i < length && i < SIZE; i++) {
                h = 31 * h + limbs[i];
            }
            return h;
        }

        private void measure() {
            length = SIZE;
            while (length > 0 && limbs[length - 1] == 0) {
                length--;
            }
        }
    }
}
