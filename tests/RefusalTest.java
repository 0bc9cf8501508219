import java.util.List;
import java.util.function.Consumer;
import java.util.function.ToLongFunction;

/**
 * "Refused, changing nothing but STATUS, the first of: BAD -2 a number is not as told; NO -3 as told; FULL -4."
 * Each call that can be refused, promise by promise, on both sides of each bound: what it answers, which count of
 * STATUS rises, and that all else stays as in a twin that was not called.
 */
public final class RefusalTest {
    private static final int NONE = -1, BAD = -2, NO = -3, FULL = -4, BAD_COPY = -10, OTHER_STATUS = -1;
    private static final int GRAIN = 0, SHINES = 1, STANDS = 3, WORN = 4, EDGE = 5, CUT = 6;
    private static final int MOST = Integer.MAX_VALUE, FEWEST = Integer.MIN_VALUE;
    private static final int[] NO_CELLS = {-1, 48, MOST, FEWEST}, NO_HEMS = {-1, 6, MOST, FEWEST};
    private static final int[] NO_STACKS = {-1, 3, 4, 7, 8, 11, 12, 13, 20, 21, MOST, FEWEST};

    private static int wrong = 0;
    private static int asked = 0;
    private static Consumer<PaintedGods> setting = x -> { };

    private static void due(String what, long got, long want) {
        asked++;
        if (got != want) {
            wrong++;
            System.out.println(what + " answered " + got + ", due is " + want);
        }
    }

    // ---- what an object can be before the call

    private static void ordinary(PaintedGods x) {
        x.stuff(4, 3, 1, 2);
        x.image(1);
        x.stuff(12, 7, 6, 1);
        x.trace(1, CUT, 0);
        x.trace(9, GRAIN, 1);
        x.aside(1, true);
        x.copy(7, 1);
        x.type(0x7475726E20333BL, 7);
        x.odds(0, 1);
    }

    private static void full(PaintedGods x) {
        for (int i = 0; i < 4; i++) {
            x.stuff(9 + i, i, i, 1 + i);
        }
        for (int i = 0; i < 20; i++) {
            x.trace(i, CUT, 0);
        }
        x.image(1);
        for (int i = 0; i < 37; i++) {
            x.type(0x2020202020202020L, 8);
        }
        x.type(0x20202020, 4);
        x.above(40);
    }

    /** No row of hem 0 has a weight; all others have some. */
    private static void dead(PaintedGods x) {
        ordinary(x);
        x.trace(3, WORN, 11);
    }

    private static void allDead(PaintedGods x) {
        ordinary(x);
        for (int stack = 0; stack < 21; stack++) {
            x.habit(stack, 0);
        }
    }

    private static PaintedGods made() {
        PaintedGods x = new PaintedGods();
        setting.accept(x);
        return x;
    }

    private static int countOf(int answer) {
        return answer == NO ? 1 : answer == FULL ? 2 : 0;
    }

    private static void refused(String call, int answer, ToLongFunction<PaintedGods> it) {
        PaintedGods x = made();
        PaintedGods twin = made();
        due(call, it.applyAsLong(x), answer);
        for (int what = 0; what < 3; what++) {
            due("status(" + what + ") after " + call, x.status(what), twin.status(what) + (what == countOf(answer) ? 1 : 0));
        }
        alike("after " + call, x, twin);
    }

    private static void alike(String when, PaintedGods x, PaintedGods twin) {
        due("digest() " + when, x.digest(), twin.digest());
        due("statue() " + when, x.statue(), twin.statue());
        due("digest() of the text " + when, x.digest(), twin.digest());
        for (int image = 0; image < 2; image++) {
            due("from(" + image + ") " + when, x.from(image), twin.from(image));
            due("digest() of image " + image + " " + when, x.digest(), twin.digest());
        }
    }

    private static void answered(String call, long answer, ToLongFunction<PaintedGods> it) {
        PaintedGods x = made();
        PaintedGods twin = made();
        due(call, it.applyAsLong(x), answer);
        for (int what = 0; what < 3; what++) {
            due("status(" + what + ") after " + call, x.status(what), twin.status(what));
        }
    }

    // ---- the statue

    private static void stuff() {
        int[] least = {1, 0, 0, 1};
        int[] most = {60, 9, 15, 9};
        for (int i = 0; i < 4; i++) {
            for (int v : new int[] {least[i] - 1, most[i] + 1, FEWEST, MOST}) {
                int[] n = {5, 5, 5, 5};
                n[i] = v;
                refused("2 stuff, number " + i + " is " + v, BAD, x -> x.stuff(n[0], n[1], n[2], n[3]));
            }
            for (int v : new int[] {least[i], most[i]}) {
                int[] n = {5, 5, 5, 5};
                n[i] = v;
                answered("2 stuff, number " + i + " is " + v, 2, x -> x.stuff(n[0], n[1], n[2], n[3]));
            }
        }
    }

    private static void put() {
        int[] least = {0, 0, 0, 0, 0, 0, 1};
        int[] most = {5, 5, 5, 5, 60, 3, 9};
        int[] first = {1, 1, 1, 1, 10, 0, 3};
        for (int i = 0; i < 7; i++) {
            int what = i;
            for (int v : new int[] {least[i] - 1, most[i] + 1, FEWEST, MOST}) {
                refused("3 put(" + what + ", " + v + ")", BAD, x -> x.put(what, v));
            }
            answered("3 put(" + what + ") the least", first[what], x -> x.put(what, least[what]));
            answered("3 put(" + what + ") the most", first[what], x -> x.put(what, most[what]));
        }
        for (int what : new int[] {-1, 7, FEWEST, MOST}) {
            refused("3 put(" + what + ", 1)", BAD, x -> x.put(what, 1));
        }
    }

    private static void habit() {
        for (int stack : new int[] {-1, 21, FEWEST, MOST}) {
            refused("4 habit(" + stack + ", 1)", BAD, x -> x.habit(stack, 1));
        }
        for (int weight : new int[] {-1, 10, FEWEST, MOST}) {
            refused("4 habit(20, " + weight + ")", BAD, x -> x.habit(20, weight));
        }
        answered("4 habit(20, 9), a stack that is none", 1, x -> x.habit(20, 9));
        answered("4 habit(0, 0)", 1, x -> x.habit(0, 0));
    }

    private static void trace() {
        for (int cell : NO_CELLS) {
            refused("5 trace(" + cell + ", CUT, 0)", BAD, x -> x.trace(cell, CUT, 0));
        }
        for (int kind : new int[] {-1, 7, FEWEST, MOST}) {
            refused("5 trace(0, " + kind + ", 0)", BAD, x -> x.trace(0, kind, 0));
        }
        int[] least = {0, 0, 0, 0, 0, 1, 0};
        int[] most = {1, 3, 3, 400, 400, 400, 0};
        for (int i = GRAIN; i <= CUT; i++) {
            int kind = i;
            for (int v : new int[] {least[i] - 1, most[i] + 1, FEWEST, MOST}) {
                refused("5 trace(0, " + kind + ", " + v + ")", BAD, x -> x.trace(0, kind, v));
            }
            answered("5 trace(46, " + kind + ") the least", 2, x -> x.trace(46, kind, least[kind]));
            answered("5 trace(0, " + kind + ") the most", 2, x -> x.trace(0, kind, most[kind]));
        }
        for (int cell = 7; cell < 48; cell += 8) {
            int last = cell;
            refused("5 an edge at the last place " + last, BAD, x -> x.trace(last, EDGE, 1));
            answered("5 an edge ahead of it", 2, x -> x.trace(last - 1, EDGE, 1));
            answered("5 no edge at the last place", 2, x -> x.trace(last, STANDS, 1));
        }
    }

    private static void aside() {
        for (int trace : new int[] {-1, 2, 19, 20, FEWEST, MOST}) {
            refused("6 aside(" + trace + ", true)", BAD, x -> x.aside(trace, true));
            refused("6 aside(" + trace + ", false)", BAD, x -> x.aside(trace, false));
        }
        refused("6 aside(0, false), it is so", NO, x -> x.aside(0, false));
        refused("6 aside(1, true), it is so", NO, x -> x.aside(1, true));
        answered("6 aside(0, true)", 1, x -> x.aside(0, true));
        answered("6 aside(1, false)", 1, x -> x.aside(1, false));
    }

    private static void copy() {
        for (int cell : NO_CELLS) {
            refused("7 copy(" + cell + ", 0)", BAD_COPY, x -> x.copy(cell, 0));
            refused("7 copy(" + cell + ", NONE)", BAD_COPY, x -> x.copy(cell, NONE));
        }
        for (int stuff : new int[] {-2, 2, 3, 4, FEWEST, MOST}) {
            refused("7 copy(7, " + stuff + ")", BAD_COPY, x -> x.copy(7, stuff));
        }
        answered("7 copy(7, NONE)", 1, x -> x.copy(7, NONE));
        answered("7 copy(47, 1)", NONE, x -> x.copy(47, 1));
    }

    private static void text() {
        for (int n : new int[] {0, -1, 9, FEWEST, MOST}) {
            refused("8 type(59, " + n + ")", BAD, x -> x.type(59, n));
        }
        answered("8 one byte", 8, x -> x.type(59, 1));
        answered("8 eight bytes", 15, x -> x.type(59, 8));
        answered("9 clear()", 7, PaintedGods::clear);
        answered("10 the text of all these", 1, PaintedGods::statue);
        answered("10 an item that is refused", -1001, x -> x.type(0x6C696B65303BL, 6) < 0 ? 0 : x.statue());
        answered("10 a fault", -17, x -> x.type(0x6C696BL, 3) < 0 ? 0 : x.statue());
        for (long told : new long[] {0x6C696B65303BL, 0x6C696B653B3BL, 0x6C696B65393939L}) {
            PaintedGods x = made();
            long before = x.digest();
            x.type(told, 7);
            due("10 it is not told", x.statue() < 0 ? 1 : 0, 1);
            x.clear();
            x.type(0, 7);
            due("10 nothing changes", x.digest(), before);
        }
    }

    // ---- coats that weather

    private static void weather() {
        for (int cell : NO_CELLS) {
            refused("11 left(" + cell + ", 0, 0)", BAD, x -> x.left(cell, 0, 0));
            refused("12 shines(" + cell + ", 0, 0)", BAD, x -> x.shines(cell, 0, 0));
            refused("13 fits(" + cell + ", 0)", BAD, x -> x.fits(cell, 0));
        }
        for (int stack : NO_STACKS) {
            refused("11 left(0, " + stack + ", 0)", BAD, x -> x.left(0, stack, 0));
            refused("12 shines(0, " + stack + ", 0)", BAD, x -> x.shines(0, stack, 0));
            refused("13 fits(0, " + stack + ")", BAD, x -> x.fits(0, stack));
        }
        for (int what : new int[] {-1, 3, FEWEST, MOST}) {
            refused("11 left(0, 0, " + what + ")", BAD, x -> x.left(0, 0, what));
        }
        for (int lamp : new int[] {-1, 4, FEWEST, MOST}) {
            refused("12 shines(0, 0, " + lamp + ")", BAD, x -> x.shines(0, 0, lamp));
        }
        for (int stack : new int[] {0, 1, 2, 5, 6, 9, 10}) {
            answered("11 left(47, " + stack + ", 1)", stack == 6 || stack == 10 ? 2 : 0, x -> x.left(47, stack, 1));
            answered("12 shines(47, " + stack + ", 3)", 0, x -> x.shines(47, stack, 3));
            answered("13 fits(47, " + stack + ")", 1, x -> x.fits(47, stack));
        }
        answered("11 left(0, 0, 2)", 10, x -> x.left(0, 0, 2));
    }

    // ---- odds

    private static void cellsAndStacks() {
        for (int cell : NO_CELLS) {
            refused("14 odds(" + cell + ", 0)", BAD, x -> x.odds(cell, 0));
            refused("15 above(" + cell + ")", BAD, x -> x.above(cell));
            refused("21 rests(" + cell + ")", BAD, x -> x.rests(cell));
            for (int what = 0; what < 3; what++) {
                int asking = what;
                refused("23 bright(" + cell + ", " + what + ")", BAD, x -> x.bright(cell, asking));
            }
        }
        for (int stack : NO_STACKS) {
            refused("14 odds(0, " + stack + ")", BAD, x -> x.odds(0, stack));
        }
        for (int what : new int[] {-1, 3, FEWEST, MOST}) {
            refused("23 bright(0, " + what + ")", BAD, x -> x.bright(0, what));
        }
        answered("14 odds(47, 10)", 1, x -> x.odds(47, 10));
        answered("15 above(0)", 1, x -> x.above(0));
        answered("21 rests(47)", 2, x -> x.rests(47));
        answered("23 bright(47, 0)", 3, x -> x.bright(47, 0));
        answered("23 bright(47, 2)", 1, x -> x.bright(47, 2));
    }

    private static void hems() {
        for (int hem : NO_HEMS) {
            refused("16 likeliest(" + hem + ", 0)", BAD, x -> x.likeliest(hem, 0));
            refused("19 later(" + hem + ")", BAD, x -> x.later(hem));
            refused("22 resting(" + hem + ", 0)", BAD, x -> x.resting(hem, 0));
        }
        for (int place : new int[] {-1, 8, FEWEST, MOST}) {
            refused("16 likeliest(0, " + place + ")", BAD, x -> x.likeliest(0, place));
        }
        for (int what : new int[] {-1, 4, FEWEST, MOST}) {
            refused("22 resting(0, " + what + ")", BAD, x -> x.resting(0, what));
        }
        answered("16 likeliest(5, 7)", 0, x -> x.likeliest(5, 7));
        answered("19 later(5)", 0, x -> x.later(5));
        answered("22 resting(5, 3)", 0, x -> x.resting(5, 3));
        answered("22 resting(5, 2)", 8, x -> x.resting(5, 2));
    }

    private static void turnsAndSpans() {
        for (int turn : new int[] {-1, 4, FEWEST, MOST}) {
            refused("17 stood(" + turn + ")", BAD, x -> x.stood(turn));
        }
        for (int stuff : new int[] {-1, 2, 3, 4, FEWEST, MOST}) {
            refused("18 span(" + stuff + ", 0)", BAD, x -> x.span(stuff, 0));
        }
        for (int what : new int[] {-1, 2, FEWEST, MOST}) {
            refused("18 span(0, " + what + ")", BAD, x -> x.span(0, what));
        }
        answered("17 stood(0)", 1, x -> x.stood(0));
        answered("17 stood(3)", 1, x -> x.stood(3));
        answered("18 span(1, 0)", 1, x -> x.span(1, 0));
        answered("18 span(1, 1)", 60, x -> x.span(1, 1));
    }

    /** Asking changes nothing but THE FRACTION, and that only where it is told. */
    private static void asking() {
        List<ToLongFunction<PaintedGods>> calls = List.of(x -> x.left(0, 1, 0), x -> x.shines(0, 1, 0),
                x -> x.fits(0, 1), x -> x.likeliest(0, 7), x -> x.span(0, 0), x -> x.span(1, 1), x -> x.later(0),
                x -> x.next(), x -> x.rests(0), x -> x.resting(0, 1), x -> x.bright(0, 0), x -> x.bright(0, 1),
                x -> x.sign(0), x -> x.limb(0, 0), x -> x.limb(1, 7), x -> x.status(0), x -> x.count(3), x -> x.digest());
        for (int i = 0; i < calls.size(); i++) {
            PaintedGods x = made();
            PaintedGods twin = made();
            calls.get(i).applyAsLong(x);
            alike("after asking " + i, x, twin);
        }
        PaintedGods x = made();
        PaintedGods twin = made();
        x.stood(1);
        x.above(33);
        x.bright(5, 2);
        x.odds(0, 1);
        alike("after fractions", x, twin);
    }

    /** "NO to all that asks of a HEM of which that is 0", and "the first of": BAD stands ahead of it. */
    private static void deadHem() {
        for (int cell = 0; cell < 8; cell++) {
            int c = cell;
            refused("14 odds(" + c + ", 0) of a dead hem", NO, x -> x.odds(c, 0));
            refused("15 above(" + c + ") of a dead hem", NO, x -> x.above(c));
            refused("16 likeliest(0, " + c + ") of a dead hem", NO, x -> x.likeliest(0, c));
            refused("21 rests(" + c + ") of a dead hem", NO, x -> x.rests(c));
            for (int what = 0; what < 3; what++) {
                int w = what;
                refused("23 bright(" + c + ", " + w + ") of a dead hem", NO, x -> x.bright(c, w));
            }
            for (int stack : NO_STACKS) {
                refused("14 BAD ahead of NO: odds(" + c + ", " + stack + ")", BAD, x -> x.odds(c, stack));
            }
            refused("23 BAD ahead of NO: bright(" + c + ", 3)", BAD, x -> x.bright(c, 3));
        }
        for (int what = 0; what < 4; what++) {
            int w = what;
            refused("22 resting(0, " + w + ") of a dead hem", NO, x -> x.resting(0, w));
        }
        refused("22 BAD ahead of NO: resting(0, 4)", BAD, x -> x.resting(0, 4));
        refused("16 BAD ahead of NO: likeliest(0, 8)", BAD, x -> x.likeliest(0, 8));
        for (int turn = 0; turn < 4; turn++) {
            int t = turn;
            refused("17 stood(" + t + "), all are 0", NO, x -> x.stood(t));
        }
        refused("17 BAD ahead of NO: stood(4)", BAD, x -> x.stood(4));
        answered("14 odds(8, 0) of the next hem", 1, x -> x.odds(8, 0));
        answered("18 NONE is no refusal", NONE, x -> x.span(0, 0));
        answered("19 later(0) is none", 4, x -> x.later(0));
        answered("20 next() of other hems, 4 of 7 shine there", 81, x -> x.next());
    }

    private static void noHemLives() {
        refused("20 next(), there is none", NO, PaintedGods::next);
        refused("17 stood(0), all are 0", NO, x -> x.stood(0));
        for (int hem = 0; hem < 6; hem++) {
            int h = hem;
            refused("16 likeliest(" + h + ", 0), no habit", NO, x -> x.likeliest(h, 0));
            answered("19 later(" + h + "), three do not do: no refusal", -5, x -> x.later(h));
        }
        answered("18 span, none: no refusal", NONE, x -> x.span(1, 1));
    }

    // ---- what there is

    private static void fractions() {
        for (int what : new int[] {-1, 3, FEWEST, MOST}) {
            refused("24 sign(" + what + ")", BAD, x -> x.sign(what));
        }
        for (int which : new int[] {-1, 2, FEWEST, MOST}) {
            refused("25 limb(" + which + ", 0)", BAD, x -> x.limb(which, 0));
            refused("25 limb(" + which + ", 99)", BAD, x -> x.limb(which, 99));
        }
        for (int i : new int[] {-1, FEWEST}) {
            refused("25 limb(0, " + i + ")", BAD, x -> x.limb(0, i));
            refused("25 limb(1, " + i + ")", BAD, x -> x.limb(1, i));
        }
        for (int i : new int[] {1, 2, 15, 16, 17, MOST}) {
            answered("25 limb(0, " + i + "): not so many", NONE, x -> x.limb(0, i));
            answered("25 limb(1, " + i + "): not so many", NONE, x -> x.limb(1, i));
        }
        answered("25 limb(0, 0)", 1, x -> x.limb(1, 0) > 0 && x.limb(0, 0) > 0 ? 1 : 0);
        answered("24 sign(0)", 1, x -> x.sign(0));
        answered("24 sign(2)", 1, x -> x.sign(2));
    }

    private static void images() {
        for (int i : new int[] {-1, 2, FEWEST, MOST}) {
            refused("26 image(" + i + ")", BAD, x -> x.image(i));
            refused("27 from(" + i + ")", BAD, x -> x.from(i));
        }
        refused("27 from(0), none was kept", NO, x -> x.from(0));
        answered("26 image(0)", 1, x -> x.image(0));
        answered("26 image(1)", 1, x -> x.image(1));
        answered("27 from(1)", 1, x -> x.from(1));
    }

    private static void counts() {
        for (int what : new int[] {-1, 3, FEWEST, MOST}) {
            refused("28 status(" + what + ")", OTHER_STATUS, x -> x.status(what));
        }
        for (int what : new int[] {-1, 4, FEWEST, MOST}) {
            refused("29 count(" + what + ")", BAD, x -> x.count(what));
        }
        int[] want = {2, 2, 1, 7};
        for (int what = 0; what < 4; what++) {
            int w = what;
            answered("29 count(" + w + ")", want[w], x -> x.count(w));
        }
        for (int what = 0; what < 3; what++) {
            int w = what;
            answered("28 status(" + w + ")", 0, x -> x.status(w));
        }
    }

    /** FULL, and BAD ahead of it. */
    private static void fullObject() {
        refused("2 a fifth stuff", FULL, x -> x.stuff(1, 1, 1, 1));
        refused("2 BAD ahead of FULL: stuff(61, 1, 1, 1)", BAD, x -> x.stuff(61, 1, 1, 1));
        refused("2 BAD ahead of FULL: stuff(1, 1, 1, 0)", BAD, x -> x.stuff(1, 1, 1, 0));
        refused("5 a twenty-first trace", FULL, x -> x.trace(0, CUT, 0));
        refused("5 a twenty-first trace of the last stuff", FULL, x -> x.trace(47, GRAIN, 3));
        refused("5 BAD ahead of FULL: trace(48, CUT, 0)", BAD, x -> x.trace(48, CUT, 0));
        refused("5 BAD ahead of FULL: trace(0, CUT, 1)", BAD, x -> x.trace(0, CUT, 1));
        refused("5 BAD ahead of FULL: trace(7, EDGE, 1)", BAD, x -> x.trace(7, EDGE, 1));
        for (int n = 1; n <= 8; n++) {
            int bytes = n;
            refused("8 " + n + " bytes more", FULL, x -> x.type(59, bytes));
        }
        refused("8 BAD ahead of FULL: type(59, 9)", BAD, x -> x.type(59, 9));
        refused("8 BAD ahead of FULL: type(59, 0)", BAD, x -> x.type(59, 0));
        refused("6 the last trace is not aside", NO, x -> x.aside(19, false));
        refused("6 aside(20, true)", BAD, x -> x.aside(20, true));
        answered("6 the last trace", 1, x -> x.aside(19, true));
        answered("4 the last stack", 1, x -> x.habit(20, 9));
        answered("11 the last stack", 12, x -> x.left(47, 20, 0));
        answered("14 the last stack", 1, x -> x.odds(47, 20));
        answered("29 count(0)", 4, x -> x.count(0));
        answered("29 count(1)", 20, x -> x.count(1));
        answered("29 count(3)", 300, x -> x.count(3));
        answered("9 clear()", 300, PaintedGods::clear);
        answered("10 300 blanks", 0, PaintedGods::statue);
    }

    /** Each kind of refusal counts by itself, and each one counts. */
    private static void statusCounts() {
        PaintedGods x = new PaintedGods();
        for (int i = 1; i <= 40; i++) {
            x.put(9, 9);
            due("28 BAD so far", x.status(0), i);
        }
        for (int i = 1; i <= 30; i++) {
            x.from(i % 2);
            due("28 NO so far", x.status(1), i);
        }
        for (int i = 1; i <= 4; i++) {
            x.stuff(1, 1, 1, 1);
        }
        for (int i = 1; i <= 20; i++) {
            x.stuff(1, 1, 1, 1);
            due("28 FULL so far", x.status(2), i);
        }
        due("28 BAD", x.status(0), 40);
        due("28 NO", x.status(1), 30);
    }

    public static void main(String[] args) {
        setting = RefusalTest::ordinary;
        stuff();
        put();
        habit();
        trace();
        aside();
        copy();
        text();
        weather();
        cellsAndStacks();
        hems();
        turnsAndSpans();
        asking();
        fractions();
        images();
        counts();
        setting = RefusalTest::full;
        fullObject();
        setting = RefusalTest::dead;
        deadHem();
        setting = RefusalTest::allDead;
        noHemLives();
        statusCounts();
        System.out.println(wrong == 0 ? "all " + asked + " answers are as due" : wrong + " answers are not as due");
        if (wrong != 0) {
            System.exit(1);
        }
    }
}
