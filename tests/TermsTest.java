/** The sentences of the document's Terms that name a boundary case: a method for each, with what is due on both sides. */
public final class TermsTest {
    private static final int NONE = -1, BAD = -2, NO = -3, FULL = -4;
    private static final int GRAIN = 0, SHINES = 1, DARK = 2, STANDS = 3, WORN = 4, EDGE = 5, CUT = 6;
    private static final int RAIN = 0, YEARS = 4, TURN = 5, LIKE = 6;

    private static int wrong = 0;
    private static int asked = 0;
    private static String sentence = "";

    private static void of(String words) {
        sentence = words;
    }

    private static void due(String what, long got, long want) {
        asked++;
        if (got != want) {
            wrong++;
            System.out.println("\"" + sentence + "\": " + what + " answered " + got + ", due is " + want);
        }
    }

    private static void fraction(String what, PaintedGods x, int answer, int over, int under) {
        due(what, answer, 1);
        due(what + ", its sign", x.sign(0), over == 0 ? 0 : 1);
        due(what + ", limbs above", x.sign(1), over == 0 ? 0 : 1);
        due(what + ", limbs below", x.sign(2), 1);
        due(what + ", above", x.limb(0, 0), over == 0 ? NONE : over);
        due(what + ", below", x.limb(1, 0), under);
    }

    private static PaintedGods with(int... stuffs) {
        PaintedGods x = new PaintedGods();
        for (int i = 0; i < stuffs.length; i += 4) {
            x.stuff(stuffs[i], stuffs[i + 1], stuffs[i + 2], stuffs[i + 3]);
        }
        return x;
    }

    /** One stuff of THICK 6 under a WEAR of 10: bare loses 10, one coat 4, two coats 0 (2 are left of the ground). */
    private static PaintedGods one() {
        return with(6, 2, 3, 1);
    }

    /** Bare and one coat alone, each cell by itself; a coat of THICK 60. */
    private static PaintedGods bareOrCoat(int bare, int coat) {
        PaintedGods x = with(60, 2, 3, 1);
        x.put(LIKE, 1);
        x.habit(0, bare);
        x.habit(1, coat);
        x.habit(5, 0);
        return x;
    }

    private static void type(PaintedGods x, String text) {
        for (int i = 0; i < text.length(); i += 8) {
            int n = Math.min(8, text.length() - i);
            long v = 0;
            for (int k = i; k < i + n; k++) {
                v = v << 8 | text.charAt(k);
            }
            x.type(v, n);
        }
    }

    private static int told(PaintedGods x, String text) {
        x.clear();
        type(x, text);
        return x.statue();
    }

    private static int told(String text) {
        return told(new PaintedGods(), text);
    }

    // ---- the statue

    private static void cells() {
        of("THE STATUE has 48 CELLS");
        for (int cell : new int[] {0, 47}) {
            PaintedGods x = one();
            due("trace", x.trace(cell, CUT, 0), 0);
            due("copy", x.copy(cell, 0), NONE);
            due("left", x.left(cell, 0, 2), 10);
            due("shines", x.shines(cell, 5, 0), 1);
            due("fits bare", x.fits(cell, 0), 0);
            due("fits a coat", x.fits(cell, 1), 1);
            due("odds", x.odds(cell, 0), 1);
            due("above", x.above(cell), 1);
            due("rests", x.rests(cell), 0);
            due("bright", x.bright(cell, 1), 2);
        }
        for (int cell : new int[] {-1, 48}) {
            PaintedGods x = one();
            due("trace " + cell, x.trace(cell, CUT, 0), BAD);
            due("left " + cell, x.left(cell, 0, 2), BAD);
            due("above " + cell, x.above(cell), BAD);
        }
    }

    private static void hems() {
        of("8 times the HEM 0 .. 5 and the place 0 .. 7 in it");
        for (int hem = 0; hem < 6; hem++) {
            for (int place = 0; place < 8; place += 7) {
                PaintedGods x = one();
                x.trace(8 * hem + place, WORN, 11);
                for (int other = 0; other < 6; other++) {
                    int want = other == hem ? NO : 1;
                    due("above the first of hem " + other, x.above(8 * other), want);
                    due("above the last of hem " + other, x.above(8 * other + 7), want);
                }
            }
        }
        PaintedGods x = one();
        due("likeliest(5, 7)", x.likeliest(5, 7), 0);
        due("likeliest(6, 0)", x.likeliest(6, 0), BAD);
        due("likeliest(0, 8)", x.likeliest(0, 8), BAD);
    }

    private static void sides() {
        of("the SIDE of a CELL is half its place, cut (0 .. 3)");
        for (int quarter = 0; quarter < 4; quarter++) {
            PaintedGods x = new PaintedGods();
            x.put(RAIN + quarter, 5);
            for (int cell = 0; cell < 48; cell++) {
                int place = cell % 8;
                boolean rains = place == 2 * quarter || place == 2 * quarter + 1;
                due("quarter " + quarter + " at cell " + cell, x.left(cell, 0, 2), rains ? 50 : 10);
            }
        }
    }

    private static void rain() {
        of("RAIN of a quarter 0 .. 3 (0 .. 5; 1 at first)");
        for (int quarter = 0; quarter < 4; quarter++) {
            PaintedGods x = new PaintedGods();
            due("below", x.put(RAIN + quarter, -1), BAD);
            due("above", x.put(RAIN + quarter, 6), BAD);
            due("the most, over the first", x.put(RAIN + quarter, 5), 1);
            due("the least", x.put(RAIN + quarter, 0), 5);
            due("no rain wears nothing", x.left(2 * quarter, 0, 2), 0);
        }
    }

    private static void turn() {
        of("TURN (0 .. 3; 0 at first): SIDE s stands to quarter s and TURN (round the 4)");
        int[][] worn = {{0, 0, 7, 7, 14, 14, 35, 35}, {7, 7, 14, 14, 35, 35, 0, 0}, {14, 14, 35, 35, 0, 0, 7, 7},
            {35, 35, 0, 0, 7, 7, 14, 14}};
        PaintedGods x = new PaintedGods();
        x.put(RAIN, 0);
        x.put(RAIN + 2, 2);
        x.put(RAIN + 3, 5);
        x.put(YEARS, 7);
        due("below", x.put(TURN, -1), BAD);
        due("above", x.put(TURN, 4), BAD);
        for (int turn = 0; turn < 4; turn++) {
            due("put", x.put(TURN, turn), turn == 0 ? 0 : turn - 1);
            for (int place = 0; place < 8; place++) {
                due("turn " + turn + ", place " + place, x.left(40 + place, 0, 2), worn[turn][place]);
            }
        }
    }

    private static void years() {
        of("YEARS (0 .. 60; 10 at first): WEAR of a CELL is YEARS times RAIN of its quarter");
        PaintedGods x = new PaintedGods();
        due("below", x.put(YEARS, -1), BAD);
        due("above", x.put(YEARS, 61), BAD);
        due("the first", x.put(YEARS, 60), 10);
        x.put(RAIN + 1, 5);
        x.put(RAIN + 2, 0);
        due("60 times 1", x.left(0, 0, 2), 60);
        due("60 times 5", x.left(2, 0, 2), 300);
        due("60 times 0", x.left(4, 0, 2), 0);
        due("the least", x.put(YEARS, 0), 60);
        due("0 times 5", x.left(2, 0, 2), 0);
        due("the least again", x.put(YEARS, 0), 0);
    }

    // ---- stuffs and stacks

    private static void stuffs() {
        of("STUFFS 0 .. 3, as they come: THICK (1 .. 60), BRIGHT (0 .. 9), SHINES (bits of LAMPS 0 .. 3), LEAST (1 .. 9)");
        int[] least = {1, 0, 0, 1};
        int[] most = {60, 9, 15, 9};
        for (int i = 0; i < 4; i++) {
            int[] low = {30, 5, 7, 4};
            int[] high = low.clone();
            low[i] = least[i] - 1;
            high[i] = most[i] + 1;
            PaintedGods x = new PaintedGods();
            due("number " + i + " too small", x.stuff(low[0], low[1], low[2], low[3]), BAD);
            due("number " + i + " too large", x.stuff(high[0], high[1], high[2], high[3]), BAD);
            low[i]++;
            high[i]--;
            due("number " + i + " the least", x.stuff(low[0], low[1], low[2], low[3]), 0);
            due("number " + i + " the most", x.stuff(high[0], high[1], high[2], high[3]), 1);
            due("a third", x.stuff(1, 1, 1, 1), 2);
            due("a fourth", x.stuff(1, 1, 1, 1), 3);
            due("a fifth", x.stuff(1, 1, 1, 1), FULL);
            due("four are there", x.count(0), 4);
        }
    }

    private static void stacks() {
        of("0 bare, 1 and g: one coat of STUFF g, 5 and 4 g and t: g as the ground, t above it (also t is g)");
        int[] thick = {3, 11, 28, 60};
        PaintedGods x = with(3, 1, 1, 1, 11, 1, 1, 1, 28, 1, 1, 1, 60, 1, 1, 1);
        x.put(YEARS, 0);
        due("bare, its ground", x.left(0, 0, 0), 0);
        due("bare, above it", x.left(0, 0, 1), 0);
        for (int g = 0; g < 4; g++) {
            due("one coat of " + g, x.left(0, 1 + g, 0), thick[g]);
            due("nothing above it", x.left(0, 1 + g, 1), 0);
            for (int t = 0; t < 4; t++) {
                due("ground " + g, x.left(0, 5 + 4 * g + t, 0), thick[g]);
                due("above it " + t, x.left(0, 5 + 4 * g + t, 1), thick[t]);
            }
        }
    }

    private static void noStacks() {
        of("(Those with a STUFF that is not there are none.)");
        PaintedGods x = new PaintedGods();
        for (int there = 0; there <= 4; there++) {
            for (int stack = -1; stack <= 21; stack++) {
                boolean is = stack == 0 || stack >= 1 && stack <= there
                        || stack >= 5 && stack <= 20 && (stack - 5) / 4 < there && (stack - 5) % 4 < there;
                String what = there + " stuffs, stack " + stack;
                due("left, " + what, x.left(0, stack, 0), is ? 0 : BAD);
                due("shines, " + what, x.shines(0, stack, 3), is ? 0 : BAD);
                due("fits, " + what, x.fits(0, stack), is ? 1 : BAD);
                due("odds, " + what, x.odds(0, stack), is ? 1 : BAD);
                if (is) {
                    due("odds below, " + what, x.limb(1, 0), 1 + there + there * there);
                }
            }
            x.stuff(1, 1, 7, 1);
        }
    }

    private static void weather() {
        of("WEAR takes first t, then g, then stone: what is LEFT of each; stone is LOST by what is more than THICK of all coats");
        PaintedGods x = with(7, 1, 1, 1, 5, 1, 1, 1);
        int[][] rows = {{0, 7, 5, 0}, {1, 7, 4, 0}, {4, 7, 1, 0}, {5, 7, 0, 0}, {6, 6, 0, 0}, {11, 1, 0, 0}, {12, 0, 0, 0},
            {13, 0, 0, 1}, {60, 0, 0, 48}};
        for (int[] r : rows) {
            x.put(YEARS, r[0]);
            due("the ground after " + r[0], x.left(9, 6, 0), r[1]);
            due("above it after " + r[0], x.left(9, 6, 1), r[2]);
            due("stone after " + r[0], x.left(9, 6, 2), r[3]);
            due("one coat after " + r[0], x.left(9, 2, 0), Math.max(0, 5 - r[0]));
            due("stone below one coat after " + r[0], x.left(9, 2, 2), Math.max(0, r[0] - 5));
            due("bare stone after " + r[0], x.left(9, 0, 2), r[0]);
        }
    }

    // ---- traces

    private static void traces() {
        of("TRACES 0 .. 19, as they come");
        PaintedGods x = one();
        for (int i = 0; i < 20; i++) {
            due("trace " + i, x.trace(47 - i, STANDS, 400), i);
        }
        due("one more", x.trace(0, STANDS, 400), FULL);
        due("twenty are there", x.count(1), 20);
        due("the last is one", x.aside(19, true), 1);
        due("one aside makes no room", x.trace(0, STANDS, 400), FULL);
    }

    private static void grain() {
        of("0 GRAIN: something of STUFF v is LEFT");
        PaintedGods x = with(5, 1, 1, 9, 7, 1, 1, 9);
        x.trace(0, GRAIN, 0);
        x.trace(9, GRAIN, 1);
        int[][] rows = {{4, 1, 1}, {5, 0, 1}, {6, 0, 1}, {11, 0, 1}, {12, 0, 0}};
        for (int[] r : rows) {
            x.put(YEARS, r[0]);
            due("one of above is left after " + r[0], x.fits(0, 9), r[1]);
            due("and of the ground", x.fits(9, 9), r[2]);
        }
        x.put(YEARS, 4);
        due("one coat, its last grain", x.fits(0, 1), 1);
        due("no grain of another stuff", x.fits(9, 1), 0);
        x.put(YEARS, 5);
        due("one coat, none", x.fits(0, 1), 0);
        due("a stuff that is not there", x.trace(0, GRAIN, 2), BAD);
        due("no stuff", x.trace(0, GRAIN, -1), BAD);
        due("none is there at all", new PaintedGods().trace(0, GRAIN, 0), BAD);
    }

    private static void shining() {
        of("under LAMP v a coat of which LEAST is LEFT (of its STUFF, as much or more) SHINES");
        for (int least = 1; least <= 9; least += 4) {
            PaintedGods x = with(20, 1, 4, least);
            for (int over = -1; over <= 1; over++) {
                x.put(YEARS, 20 - least - over);
                due("left over LEAST " + least + " by " + over, x.shines(0, 1, 2), over < 0 ? 0 : 1);
                due("two coats have one whole", x.shines(0, 5, 2), 1);
            }
            x.put(YEARS, 40 - least);
            due("the ground alone", x.shines(0, 5, 2), 1);
            x.put(YEARS, 41 - least);
            due("of which too little is left", x.shines(0, 5, 2), 0);
        }
        PaintedGods x = with(9, 1, 1, 9, 9, 1, 8, 9);
        x.put(YEARS, 0);
        for (int lamp = 0; lamp < 4; lamp++) {
            due("bare under lamp " + lamp, x.shines(47, 0, lamp), 0);
            due("bit 0 under lamp " + lamp, x.shines(47, 1, lamp), lamp == 0 ? 1 : 0);
            due("bit 3 under lamp " + lamp, x.shines(47, 2, lamp), lamp == 3 ? 1 : 0);
            due("both coats under lamp " + lamp, x.shines(47, 6, lamp), lamp == 0 || lamp == 3 ? 1 : 0);
        }
        x.put(YEARS, 1);
        due("the coat above too little", x.shines(47, 6, 3), 0);
        due("the ground whole", x.shines(47, 6, 0), 1);
    }

    private static void lamps() {
        of("1 SHINES: under LAMP v; 2 DARK: it does not (under SHINES)");
        for (int kind = SHINES; kind <= DARK; kind++) {
            for (int lamp = 0; lamp < 4; lamp++) {
                PaintedGods x = with(9, 1, 1 << lamp, 9);
                x.put(YEARS, 0);
                due("lamp " + lamp, x.trace(0, kind, lamp), 0);
                due("another lamp", x.trace(1, kind, 3 - lamp), 1);
                due("it shines", x.fits(0, 1), kind == SHINES ? 1 : 0);
                due("not under another", x.fits(1, 1), kind == SHINES ? 0 : 1);
                due("bare is dark", x.fits(0, 0), kind == SHINES ? 0 : 1);
                x.put(YEARS, 1);
                due("too little is left", x.fits(0, 1), kind == SHINES ? 0 : 1);
            }
            due("lamp 4", one().trace(0, kind, 4), BAD);
            due("lamp -1", one().trace(0, kind, -1), BAD);
        }
    }

    private static void stands() {
        of("3 STANDS: v or less of the stone is LOST (v 0 .. 400)");
        PaintedGods x = one();
        due("-1", x.trace(0, STANDS, -1), BAD);
        due("401", x.trace(0, STANDS, 401), BAD);
        int[] v = {0, 3, 4, 5, 400};
        int[] bare = {0, 0, 0, 0, 1};
        int[] coat = {0, 0, 1, 1, 1};
        for (int i = 0; i < v.length; i++) {
            due("a trace", x.trace(i, STANDS, v[i]), i);
            due("10 lost, v " + v[i], x.fits(i, 0), bare[i]);
            due("4 lost, v " + v[i], x.fits(i, 1), coat[i]);
            due("0 lost, v " + v[i], x.fits(i, 5), 1);
        }
    }

    private static void worn() {
        of("4 WORN: v or more (under STANDS: not less)");
        PaintedGods x = one();
        due("-1", x.trace(0, WORN, -1), BAD);
        due("401", x.trace(0, WORN, 401), BAD);
        int[] v = {0, 1, 4, 5, 10, 11, 400};
        int[] bare = {1, 1, 1, 1, 1, 0, 0};
        int[] coat = {1, 1, 1, 0, 0, 0, 0};
        int[] two = {1, 0, 0, 0, 0, 0, 0};
        for (int i = 0; i < v.length; i++) {
            due("a trace", x.trace(i, WORN, v[i]), i);
            due("10 lost, v " + v[i], x.fits(i, 0), bare[i]);
            due("4 lost, v " + v[i], x.fits(i, 1), coat[i]);
            due("0 lost, v " + v[i], x.fits(i, 5), two[i]);
        }
    }

    private static void edges() {
        of("5 EDGE: it is LOST v (1 .. 400) less here than at the next CELL of the HEM, at least");
        PaintedGods x = one();
        due("0", x.trace(0, EDGE, 0), BAD);
        due("401", x.trace(0, EDGE, 401), BAD);
        due("1", x.trace(0, EDGE, 1), 0);
        due("400", x.trace(8, EDGE, 400), 1);
        due("so much is never lost", x.above(8), NO);
        for (int hem = 0; hem < 6; hem++) {
            due("at the last place", x.trace(8 * hem + 7, EDGE, 1), BAD);
        }
        due("at the last but one", x.trace(46, EDGE, 1), 2);
        due("so the last is not of two coats", x.odds(47, 5), 1);
        due("not at all", x.sign(0), 0);
        due("nor the last but one bare", x.odds(46, 0), 1);
        due("not at all, too", x.sign(0), 0);
        int[] v = {3, 4, 5, 6, 7, 10, 11};
        int[] ways = {3, 3, 2, 2, 1, 1, 0};
        for (int i = 0; i < v.length; i++) {
            PaintedGods y = one();
            y.put(LIKE, 1);
            y.trace(2, EDGE, v[i]);
            due("lost 0 4 10, an edge of " + v[i], y.odds(2, 5), ways[i] == 0 ? NO : 1);
            if (ways[i] != 0) {
                fraction("ahead of the edge of " + v[i], y, y.odds(2, 5), ways[i] == 3 ? 2 : 1, ways[i] == 3 ? 3
                        : ways[i] == 2 ? 2 : 1);
            }
        }
    }

    private static void edgesTogether() {
        of("5 EDGE: of two at a CELL both are so; of a run of them each is so");
        PaintedGods x = one();
        x.put(LIKE, 1);
        x.trace(0, EDGE, 10);
        x.trace(0, EDGE, 1);
        fraction("two at a cell", x, x.odds(0, 5), 1, 1);
        x.aside(0, true);
        fraction("the greater aside", x, x.odds(0, 5), 2, 3);
        x.trace(1, EDGE, 1);
        fraction("0 4 10 alone", x, x.odds(1, 1), 1, 1);
        x.trace(2, EDGE, 1);
        due("four steps are none", x.odds(1, 1), NO);
        due("the last one is to be set aside", x.later(0), 2);
        PaintedGods y = one();
        y.put(RAIN + 1, 0);
        y.trace(1, EDGE, 1);
        due("none is lost at the dry next cell", y.above(0), NO);
        y.put(TURN, 2);
        due("now it rains there", y.above(0), 1);
    }

    private static void cut() {
        of("6 CUT: there was a coat");
        PaintedGods x = one();
        due("v 1", x.trace(0, CUT, 1), BAD);
        due("v -1", x.trace(0, CUT, -1), BAD);
        due("v 0", x.trace(0, CUT, 0), 0);
        x.put(YEARS, 60);
        due("bare", x.fits(0, 0), 0);
        due("a coat that is gone", x.fits(0, 1), 1);
        due("two that are gone", x.fits(0, 5), 1);
        due("without a stuff no row has one", noCoat(), NO);
    }

    private static int noCoat() {
        PaintedGods x = new PaintedGods();
        x.trace(0, CUT, 0);
        return x.odds(0, 0);
    }

    private static void aside() {
        of("A TRACE may be set ASIDE: then it is not looked at");
        PaintedGods x = one();
        for (int i = 0; i < 2; i++) {
            x.trace(0, i == 0 ? CUT : EDGE, i == 0 ? 0 : 400);
        }
        due("an edge that can not be", x.above(0), NO);
        x.aside(1, true);
        due("it is aside", x.above(0), 1);
        due("the cut is looked at", x.fits(0, 0), 0);
        x.aside(0, true);
        due("not any more", x.fits(0, 0), 1);
        fraction("as without a trace", x, x.odds(0, 0), 1, 3);
        due("none to be set aside", x.later(0), 0);
        due("any thickness does", x.span(0, 0), 1);
        fraction("no turn told", x, x.stood(2), 1, 4);
        x.aside(0, false);
        due("looked at again", x.fits(0, 0), 0);
    }

    // ---- rows and odds

    private static void habits() {
        of("HABITS: weights 0 .. 9 of all 21 STACKS (1 at first)");
        PaintedGods x = new PaintedGods();
        for (int stack = 0; stack < 21; stack++) {
            due("below", x.habit(stack, -1), BAD);
            due("above", x.habit(stack, 10), BAD);
            due("the most", x.habit(stack, 9), 1);
            due("the least", x.habit(stack, 0), 9);
            due("as at first", x.habit(stack, 1), 0);
        }
        due("stack -1", x.habit(-1, 1), BAD);
        due("stack 21", x.habit(21, 1), BAD);
        PaintedGods y = one();
        y.put(LIKE, 1);
        y.habit(0, 9);
        fraction("9 of 11", y, y.odds(3, 0), 9, 11);
        y.habit(0, 0);
        fraction("0 of 2", y, y.odds(3, 0), 0, 1);
        y.habit(7, 9);
        y.habit(2, 9);
        fraction("those that are none have no odds", y, y.odds(3, 1), 1, 2);
    }

    private static void like() {
        of("LIKE (1 .. 9; 3 at first): weight with which a CELL has the same STACK as the CELL ahead in its HEM (another one: 1)");
        PaintedGods x = bareOrCoat(1, 1);
        due("0", x.put(LIKE, 0), BAD);
        due("10", x.put(LIKE, 10), BAD);
        x.trace(0, CUT, 0);
        fraction("LIKE 1", x, x.odds(1, 1), 1, 2);
        due("the most", x.put(LIKE, 9), 1);
        fraction("LIKE 9", x, x.odds(1, 1), 9, 10);
        due("three", x.put(LIKE, 3), 9);
        fraction("LIKE 3", x, x.odds(1, 1), 3, 4);
        fraction("the next but one: 3 times 3 and 1 of 16", x, x.odds(2, 1), 5, 8);
        PaintedGods y = bareOrCoat(1, 1);
        y.put(LIKE, 9);
        y.trace(8, CUT, 0);
        fraction("the last of the hem ahead is no neighbour", y, y.odds(7, 1), 1, 2);
        y.aside(0, true);
        y.trace(7, CUT, 0);
        fraction("nor the first of the next hem", y, y.odds(8, 1), 1, 2);
    }

    private static void nothing() {
        of("(NO to all that asks of a HEM of which that is 0.)");
        PaintedGods x = one();
        x.trace(17, WORN, 11);
        for (int cell = 15; cell <= 24; cell++) {
            int want = cell / 8 == 2 ? NO : 1;
            due("odds " + cell, x.odds(cell, 1), want);
            due("above " + cell, x.above(cell), want);
            due("rests " + cell, x.rests(cell), want == 1 ? 2 : NO);
            due("bright least " + cell, x.bright(cell, 0), want == 1 ? 2 : NO);
            due("bright most " + cell, x.bright(cell, 1), want == 1 ? 9 : NO);
            due("bright mean " + cell, x.bright(cell, 2), want);
        }
        for (int place = 0; place < 8; place++) {
            due("likeliest " + place, x.likeliest(2, place), NO);
        }
        for (int what = 0; what < 4; what++) {
            due("resting " + what, x.resting(2, what), NO);
        }
        due("fits asks of no row", x.fits(16, 1), 1);
        due("later tells which", x.later(2), 1);
        due("span has none", x.span(0, 0), NONE);
        due("next looks at other hems", x.next(), 0);
    }

    private static void greatest() {
        of("ALL: WEIGHTS of all ROWS together: 189 times 261 to the 7th at most, above the greatest long");
        PaintedGods x = with(20, 9, 4, 1, 20, 9, 8, 1, 20, 9, 8, 1, 20, 9, 0, 1);
        x.put(LIKE, 9);
        x.put(YEARS, 0);
        for (int stack = 0; stack < 21; stack++) {
            x.habit(stack, 9);
        }
        for (int cell : new int[] {0, 3, 7}) {
            fraction("one of 21", x, x.odds(cell, 20), 1, 21);
            fraction("above", x, x.above(cell), 16, 21);
            fraction("all of 9", x, x.bright(cell, 2), 9, 1);
            x.copy(cell, 0);
            due("5 of 21 are no half", x.rests(cell), 2);
        }
        due("8 of 21 are nearer to a half than 14", x.next(), 2);
        fraction("no turn told", x, x.stood(3), 1, 4);
        x.put(YEARS, 10);
        x.put(RAIN, 0);
        x.trace(0, STANDS, 0);
        fraction("a turn with 21 stacks, the others with 20 each", x, x.stood(0), 7, 27);
        fraction("one of the others", x, x.stood(2), 20, 81);
        x.aside(0, true);
        x.put(YEARS, 0);
        x.trace(8, CUT, 0);
        due("8 of 20 are nearer to a half than 8 of 21", x.next(), 82);
        x.trace(0, CUT, 0);
        due("8 of 20 in both hems", x.next(), 2);
        x.put(YEARS, 60);
        x.put(RAIN, 1);
        due("nothing shines, whatever ALL is", x.next(), 0);
        x.aside(2, true);
        due("nor with more in the first hem", x.next(), 0);
        x.aside(1, true);
        x.trace(0, CUT, 0);
        due("nor with less", x.next(), 0);
    }

    private static void greatestDark() {
        of("NEXT: of like ones the least CELL, then LAMP, though ALL of each HEM is another one, near the greatest");
        for (int lost = 0; lost <= 21; lost++) {
            PaintedGods x = with(10, 9, 0, 1, 13, 9, 0, 1, 17, 9, 0, 1, 19, 9, 0, 1);
            x.put(LIKE, 9);
            x.put(YEARS, 30);
            for (int stack = 0; stack < 21; stack++) {
                x.habit(stack, 9);
            }
            x.trace(0, STANDS, lost);
            due("all is dark, " + lost + " lost in the first hem", x.next(), 0);
            x.trace(8, STANDS, 21 - lost);
            due("and " + (21 - lost) + " in the next one", x.next(), 0);
        }
    }

    private static void odds() {
        of("ODDS of a STACK of a CELL: WEIGHTS of ROWS with it, by ALL: from 0 by 1 to 1 by 1");
        PaintedGods x = bareOrCoat(1, 1);
        x.trace(4, CUT, 0);
        fraction("none", x, x.odds(4, 0), 0, 1);
        fraction("all", x, x.odds(4, 1), 1, 1);
        fraction("some", x, x.odds(5, 1), 1, 2);
        fraction("without a stuff", x = new PaintedGods(), x.odds(0, 0), 1, 1);
    }

    private static void above() {
        of("ABOVE: the chance that a CELL had two coats");
        PaintedGods x = new PaintedGods();
        fraction("without a stuff", x, x.above(0), 0, 1);
        x.stuff(6, 2, 3, 1);
        fraction("one of three", x, x.above(0), 1, 3);
        x.trace(0, STANDS, 0);
        fraction("it must have had them", x, x.above(0), 1, 1);
        x.habit(0, 0);
        x.habit(1, 0);
        x.aside(0, true);
        fraction("there are no others", x, x.above(9), 1, 1);
    }

    private static void likeliest() {
        of("LIKELIEST: the ROW with the most WEIGHT, of like ones the first");
        PaintedGods x = bareOrCoat(1, 1);
        for (int place = 0; place < 8; place++) {
            due("LIKE 1: all rows are alike", x.likeliest(0, place), 0);
        }
        x.trace(3, CUT, 0);
        for (int place = 0; place < 8; place++) {
            due("LIKE 1 and one cut", x.likeliest(0, place), place == 3 ? 1 : 0);
        }
        x.put(LIKE, 2);
        for (int place = 0; place < 8; place++) {
            due("LIKE 2: all as the cut one", x.likeliest(0, place), 1);
        }
        x.trace(5, WORN, 1);
        for (int place = 0; place < 8; place++) {
            due("place 4 is like 3 or like 5: the first", x.likeliest(0, place), place < 4 ? 1 : 0);
        }
        x.aside(1, true);
        x.habit(0, 2);
        for (int place = 0; place < 8; place++) {
            due("HABIT 2 and LIKE 2: bare but for the cut", x.likeliest(0, place), place == 3 ? 1 : 0);
        }
        x.habit(0, 0);
        for (int place = 0; place < 8; place++) {
            due("one row alone", x.likeliest(0, place), 1);
        }
        // Lost: bare 10, a coat of 0 none, a coat of 1 4. Coat 0, coat 1 and coat 1, bare count 2, coat 0, bare 1.
        PaintedGods y = with(10, 1, 1, 1, 6, 1, 1, 1);
        for (int stack : new int[] {5, 6, 9, 10}) {
            y.habit(stack, 0);
        }
        y.put(LIKE, 1);
        y.habit(2, 2);
        y.trace(0, EDGE, 4);
        for (int place = 0; place < 8; place++) {
            due("the first of like ones by its first place", y.likeliest(0, place), place == 0 ? 1 : 2);
        }
    }

    private static void stood() {
        of("the chance of a TURN: ALL of all HEMS multiplied by that of all four TURNS together (NO: all are 0)");
        PaintedGods x = bareOrCoat(7, 1);
        x.put(RAIN, 0);
        x.trace(0, STANDS, 0);
        int[] over = {8, 1, 1, 1};
        for (int turn = 0; turn < 4; turn++) {
            fraction("turn " + turn, x, x.stood(turn), over[turn], 11);
        }
        x.trace(16, WORN, 1);
        fraction("8 times 0: it is dry there, too", x, x.stood(0), 0, 1);
        fraction("1 times 7 for each other", x, x.stood(1), 1, 3);
        x.trace(40, WORN, 400);
        for (int turn = 0; turn < 4; turn++) {
            due("all are 0", x.stood(turn), NO);
        }
        due("-1", x.stood(-1), BAD);
        due("4", x.stood(4), BAD);
    }

    private static void span() {
        of("SPAN of a STUFF: the least, the greatest THICK (1 .. 60) in place of its own with which no HEM's ALL is 0");
        PaintedGods x = bareOrCoat(0, 1);
        x.put(YEARS, 60);
        due("from 1", x.span(0, 0), 1);
        due("to 60", x.span(0, 1), 60);
        x.trace(47, STANDS, 0);
        due("60 alone, the least", x.span(0, 0), 60);
        due("60 alone, the greatest", x.span(0, 1), 60);
        x.put(RAIN + 3, 2);
        due("not even 60", x.span(0, 0), NONE);
        due("none is the greatest", x.span(0, 1), NONE);
        PaintedGods y = bareOrCoat(0, 1);
        y.put(YEARS, 60);
        y.trace(0, WORN, 59);
        due("1 alone, the least", y.span(0, 0), 1);
        due("1 alone, the greatest", y.span(0, 1), 1);
        y.put(YEARS, 59);
        due("not even 1", y.span(0, 1), NONE);
        y.aside(0, true);
        y.trace(8, STANDS, 50);
        y.trace(16, WORN, 40);
        due("by all hems, from 9", y.span(0, 0), 9);
        due("to 19", y.span(0, 1), 19);
        due("its own is as it was", y.left(0, 1, 2), 0);
        PaintedGods z = with(10, 1, 1, 1, 10, 1, 1, 1);
        z.habit(0, 0);
        z.put(YEARS, 30);
        z.trace(0, STANDS, 10);
        z.trace(0, GRAIN, 1);
        due("two coats of 16 leave 2 of it", z.span(1, 0), 16);
        due("a coat of 21 above its 10 leaves 1 of it", z.span(0, 0), 21);
    }

    private static void later() {
        of("LATER: TRACES of a HEM (not ASIDE) to be set ASIDE, 3 at most, so that ALL is above 0: the fewest, of like ones the least as bits");
        due("none", laterOf("SS"), 0);
        due("one of two: the least", laterOf("SW"), 1);
        due("one of two: the least again", laterOf("WS"), 1);
        due("one against two", laterOf("SSW"), 4);
        due("one against nineteen, the last", laterOf("SSSSSSSSSSSSSSSSSSSW"), 1 << 19);
        due("one against nineteen, the first", laterOf("WSSSSSSSSSSSSSSSSSSS"), 1);
        due("two pairs: 1 and 2 are less than 0 and 3", laterOf("SWWS"), 6);
        due("two pairs: 0 and 1 are less than 2 and 3", laterOf("SSWW"), 3);
        due("two of five, though three of them are less as bits", laterOf("SSSWW"), 24);
        due("two of five, the first and the last", laterOf("WSSSW"), 17);
        due("two triples: 2, 3, 4 are less than 0, 1, 5", laterOf("SSWWWS"), 28);
        due("two triples: 0, 3, 4 are less than 1, 2, 5", laterOf("SWWSSW"), 25);
        due("three against seventeen", laterOf("SSSSSSSSWSSSSSSSSSWW"), 1 << 8 | 1 << 18 | 1 << 19);
        due("three do not do", laterOf("SSSSWWWW"), -5);
        due("three do not do, of twenty", laterOf("SWSWSWSWSWSWSWSWSWSW"), -5);
        PaintedGods x = one();
        x.trace(8, WORN, 11);
        x.trace(0, WORN, 11);
        x.trace(16, WORN, 11);
        for (int hem = 0; hem < 6; hem++) {
            due("of its own hem alone, " + hem, x.later(hem), hem == 0 ? 2 : hem == 1 ? 1 : hem == 2 ? 4 : 0);
        }
        x.aside(1, true);
        due("one that is aside", x.later(0), 0);
        x.habit(0, 0);
        x.habit(1, 0);
        x.habit(5, 0);
        due("no habit at all", x.later(0), -5);
    }

    /** Of traces of one cell: S stands without loss, W is worn; both can not be. */
    private static int laterOf(String kinds) {
        PaintedGods x = one();
        for (int i = 0; i < kinds.length(); i++) {
            x.trace(35, kinds.charAt(i) == 'S' ? STANDS : WORN, kinds.charAt(i) == 'S' ? 0 : 1);
        }
        return x.later(4);
    }

    private static void next() {
        of("NEXT: that where the chance that it SHINES is nearest to a half, of like ones the least CELL, then LAMP");
        PaintedGods x = with(6, 1, 10, 1);
        x.put(LIKE, 1);
        x.put(RAIN, 0);
        x.put(YEARS, 7);
        due("2 of 3 at side 0, 1 of 3 at others", x.next(), 1);
        x.put(TURN, 1);
        due("1 of 3 at side 0, 2 of 3 at side 3", x.next(), 1);
        x.habit(0, 2);
        due("2 of 4 where it is dry", x.next(), 61);
        x.put(TURN, 0);
        due("2 of 4 at side 0", x.next(), 1);
        x.trace(0, SHINES, 1);
        due("the first is known", x.next(), 11);
        x.trace(1, DARK, 3);
        due("so is the next one", x.next(), 81);
        x.habit(0, 0);
        due("known all over but 1 of 2 at side 1: hem 0 lives no more", x.next(), 101);
        of("NEXT: of all CELLS and LAMPS (HEMS of which ALL is not 0)");
        for (int hem = 1; hem < 6; hem++) {
            due("of the first hem that lives, " + hem, x.next(), 80 * hem + 21);
            x.trace(8 * hem, WORN, 400);
        }
        due("no hem lives", x.next(), NO);
        due("without a stuff all is dark", new PaintedGods().next(), 0);
    }

    // ---- the copy

    private static void copies() {
        of("THE COPY has a STUFF (NONE: bare; at first) on each CELL");
        PaintedGods x = with(6, 2, 3, 1, 6, 2, 3, 1);
        for (int cell = 0; cell < 48; cell++) {
            due("at first", x.copy(cell, cell % 3 - 1), NONE);
        }
        for (int cell = 0; cell < 48; cell++) {
            due("what it was", x.copy(cell, NONE), cell % 3 - 1);
        }
        due("-2", x.copy(0, -2), -10);
        due("a stuff that is not there", x.copy(0, 2), -10);
    }

    private static void rests() {
        of("0 TRACES (each STACK with ODDS above 0 has it on top), 1 HABITS (the chance that it is on top is more than a half), 2 WISHES (it is above 0), 3 nothing");
        PaintedGods x = with(6, 2, 3, 1);
        x.put(LIKE, 1);
        x.copy(0, 0);
        due("2 of 3", x.rests(0), 1);
        x.habit(0, 2);
        due("2 of 4 are no more than a half", x.rests(0), 2);
        x.habit(0, 9);
        x.habit(5, 0);
        due("1 of 10", x.rests(0), 2);
        x.habit(1, 0);
        due("0 of 9", x.rests(0), 3);
        due("bare: 9 of 9", x.rests(1), 0);
        x.habit(1, 1);
        due("bare: 9 of 10", x.rests(1), 1);
        x.habit(0, 1);
        due("bare: 1 of 2", x.rests(1), 2);
        x.habit(0, 0);
        due("bare: 0 of 1", x.rests(1), 3);
        due("each stack has it on top", x.rests(0), 0);
        x.stuff(6, 2, 3, 1);
        x.habit(1, 0);
        x.habit(2, 0);
        x.habit(6, 0);
        x.habit(10, 0);
        due("a ground of another stuff", x.rests(0), 0);
        x.copy(0, 1);
        due("a ground is not on top", x.rests(0), 3);
    }

    private static void resting() {
        of("RESTING: how many CELLS of a HEM rest on that");
        PaintedGods x = with(6, 2, 3, 1);
        x.put(LIKE, 1);
        for (int what = 0; what < 4; what++) {
            due("8 wishes, and nothing else: " + what, x.resting(5, what), what == 2 ? 8 : 0);
        }
        x.copy(40, 0);
        x.copy(47, 0);
        x.trace(47, CUT, 0);
        x.trace(46, CUT, 0);
        int[] want = {1, 1, 5, 1};
        for (int what = 0; what < 4; what++) {
            due("one of each else: " + what, x.resting(5, what), want[what]);
            due("another hem: " + what, x.resting(4, what), what == 2 ? 8 : 0);
        }
        due("-1", x.resting(5, -1), BAD);
        due("4", x.resting(5, 4), BAD);
    }

    private static void bright() {
        of("BRIGHT of a CELL (bare: 9): by its STACK's top: the least, the greatest of those with ODDS above 0; the mean");
        PaintedGods x = with(6, 0, 3, 1, 6, 5, 3, 1);
        x.put(LIKE, 1);
        due("the least", x.bright(0, 0), 0);
        due("bare", x.bright(0, 1), 9);
        fraction("9 and 3 times 5 of 7", x, x.bright(0, 2), 24, 7);
        x.habit(0, 0);
        due("not bare", x.bright(0, 1), 5);
        x.habit(2, 0);
        x.habit(6, 0);
        x.habit(10, 0);
        due("by the top alone", x.bright(0, 1), 0);
        fraction("a mean of 0", x, x.bright(0, 2), 0, 1);
        x.habit(1, 0);
        x.habit(5, 0);
        x.habit(9, 0);
        x.habit(6, 3);
        due("the other top", x.bright(0, 0), 5);
        fraction("a mean of 5", x, x.bright(0, 2), 5, 1);
        PaintedGods y = new PaintedGods();
        due("bare, the least", y.bright(47, 0), 9);
        fraction("bare, the mean", y, y.bright(47, 2), 9, 1);
    }

    // ---- the text

    private static void bytes() {
        of("THE TEXT (300 bytes at most)");
        PaintedGods x = new PaintedGods();
        for (int i = 1; i <= 37; i++) {
            due("eight more", x.type(0x2020202020202020L, 8), 8 * i);
        }
        for (int n = 5; n <= 8; n++) {
            due("above 300 by " + (n - 4), x.type(0, n), FULL);
        }
        due("296 are there", x.count(3), 296);
        due("to 299", x.type(0x202020, 3), 299);
        due("above 300 by 1", x.type(0x2020, 2), FULL);
        due("to 300", x.type(0x20, 1), 300);
        due("one above 300", x.type(0x20, 1), FULL);
        due("300 blanks tell no item", x.statue(), 0);
        due("300 were there", x.clear(), 300);
        due("from the start", x.type(0x20, 1), 1);
        PaintedGods y = new PaintedGods();
        due("300 bytes of items", told(y, "turn1;".repeat(50)), 50);
        due("300 bytes are there", y.count(3), 300);
        due("299 and no end", told(y, "turn1;".repeat(49) + "turn1"), -10 - 299);
        due("the fault behind 300 bytes", told(y, "turn1;".repeat(49) + " turn1"), -10 - 300);
        due("the last byte wrong", told(y, "turn1;".repeat(49) + "turn1a"), -10 - 299);
        due("60 items, the twenty-first trace", told(y, "cut0;".repeat(60)), -1020);
    }

    private static void items() {
        of("ITEMS, each ended by ; : stuff THICK BRIGHT SHINES LEAST; rain QUARTER v; years n; turn n; like n; habit STACK n; ..");
        String[] words = {"stuff", "rain", "years", "turn", "like", "habit", "grain", "shines", "dark", "stands", "worn",
            "edge", "cut", "copy"};
        int[] numbers = {4, 2, 1, 1, 1, 2, 2, 2, 2, 2, 2, 2, 1, 2};
        for (int w = 0; w < words.length; w++) {
            String text = "stuff 1 1 1 1;" + words[w];
            for (int given = 0; given <= 5; given++) {
                String whole = text + ";";
                int want = given < numbers[w] ? -10 - text.length() : given == numbers[w] ? 2 : -10 - text.length() + 1;
                if (words[w].equals("copy") || words[w].equals("grain")) {
                    whole = whole.replace("copy 1 1", "copy 1 0").replace("grain 1 1", "grain 1 0");
                }
                due(whole, told(whole), want);
                if (given > numbers[w]) {
                    break;
                }
                text = text + " 1";
            }
        }
    }

    private static void quarters() {
        of("rain QUARTER (0 .. 3, else refused) v");
        due("quarter 0", told("rain 0 0;"), 1);
        due("quarter 3", told("rain 3 5;"), 1);
        for (int quarter = 4; quarter <= 7; quarter++) {
            due("quarter " + quarter, told("rain " + quarter + " 1;"), -1000);
        }
        due("quarter 999", told("rain 999 1;"), -1000);
        due("rain of 6", told("rain 3 6;"), -1000);
    }

    private static void figures() {
        of("figures (1 to 3 are one number)");
        PaintedGods x = new PaintedGods();
        for (String n : new String[] {"7", "07", "007"}) {
            due(n, told(x, "years " + n + ";"), 1);
            due(n + " is 7", x.put(YEARS, 1), 7);
        }
        due("three figures", told(x, "stuff 1 1 1 1;stands 0 400;stands 1 009;"), 3);
        due("999", told(x, "years 999;"), -1000);
        due("four figures", told(x, "years 0007;"), -16);
        due("five figures", told(x, "years 00007;"), -16);
        due("four figures at the end", told(x, "years 0007"), -16);
        due("a second number of four", told(x, "stands 0 0400;"), -19);
        due("a hundred figures", told(x, "years " + "0".repeat(100) + ";"), -16);
    }

    /** Each byte between a word and its number, and between a number and its semicolon. */
    private static void everyByte() {
        of("TOKENS: words of letters a .. z, figures, ; ; any number of blanks (32); a byte that begins none");
        for (int b = 0; b < 256; b++) {
            String s = String.valueOf((char) b);
            boolean letter = b >= 'a' && b <= 'z';
            boolean figure = b >= '0' && b <= '9';
            int behindWord = b == 32 ? 1 : letter ? -10 : figure ? b <= '5' ? 1 : -1000 : -15;
            due("years, " + b + ", 7;", told("years" + s + "7;"), behindWord);
            int behindNumber = b == 32 ? 1 : letter ? -17 : figure ? -1000 : b == ';' ? -18 : -17;
            due("years 7, " + b + ", ;", told("years 7" + s + ";"), behindNumber);
            due(b + " alone", told(s), b == 32 ? 0 : -10);
            due("behind an item " + b, told("turn 1;" + s), b == 32 ? 1 : -17);
        }
    }

    private static void blanks() {
        of("any number of blanks (32) ahead of, between, behind them (needed only between two words, two numbers)");
        PaintedGods x = new PaintedGods();
        due("none where none is needed", told(x, "stuff1 2 3 4;rain0 5;cut0;copy0 0;"), 4);
        due("many", told(x, "   stuff   1   2   3   4   ;   rain   0   5   ;   "), 2);
        due("between two numbers", told(x, "rain 05;"), -10 - 7);
        due("between two words", told(x, "turn 1;yearsturn 1;"), -17);
        due("a word and a word", told(x, "turn turn"), -15);
        due("within a word", told(x, "tu rn 1;"), -10);
    }

    private static void faults() {
        of("FAULT: the place of the first byte of the first TOKEN that can not stand there");
        String[] texts = {"; years 7;", "7", "years 7 ; 7", "years 7 8;", "stuff 1 2 3 4 5;", "stuff 1 2 years 4;",
            "stuff 1 ; 3 4;", "rain 1 2 3;", "copy 0 none;", "years 7;;", "years 7 years 8;", "cut;", "turn 1;  year 7;",
            "turn 1;turn 1;turns 1;", "years 7 .", "years 61; 7", "YEARS 7;", "a 1234 %", "years 1234 %", "years % 1234"};
        int[] faults = {0, 0, 10, 8, 14, 10, 8, 9, 7, 8, 8, 3, 9, 14, 8, 10, 0, 0, 6, 6};
        for (int i = 0; i < texts.length; i++) {
            due(texts[i], told(texts[i]), -10 - faults[i]);
        }
    }

    private static void endings() {
        of("THE TEXT's length, if it ends too early (one that is empty or has blanks alone has none)");
        String whole = "stuff 4 3 1 2 ;";
        for (int n = 0; n <= whole.length(); n++) {
            int want = n == 0 ? 0 : n < 5 ? -10 : n < whole.length() ? -10 - n : 1;
            due("the first " + n + " bytes", told(whole.substring(0, n)), want);
            due("behind an item the first " + n + " bytes", told("like 1;" + whole.substring(0, n)),
                    n == 0 ? 1 : n < 5 ? -17 : n < whole.length() ? -17 - n : 2);
        }
        due("blanks behind too early an end", told("years 7    "), -21);
        due("one blank", told(" "), 0);
        PaintedGods x = one();
        x.put(YEARS, 3);
        due("an empty text", x.statue(), 0);
        due("is as at first", x.digest(), new PaintedGods().digest());
    }

    private static void anew() {
        of("All is told anew by these alone (else as at first), in their order");
        PaintedGods x = one();
        x.put(RAIN + 2, 4);
        x.put(LIKE, 9);
        x.habit(20, 3);
        x.copy(3, 0);
        x.trace(0, CUT, 0);
        x.aside(0, true);
        due("one item", told(x, "years 11;"), 1);
        due("no stuff", x.count(0), 0);
        due("no trace", x.count(1), 0);
        due("none aside", x.count(2), 0);
        due("the text stays", x.count(3), 9);
        int[] first = {1, 1, 1, 1, 11, 0, 3};
        for (int what = 0; what < 7; what++) {
            due("put " + what, x.put(what, 1), first[what]);
        }
        due("habit", x.habit(20, 1), 1);
        due("copy", x.copy(3, NONE), NONE);
        due("a stuff behind its trace", told(x, "cut 1;grain 0 0;stuff 1 1 1 1;"), -1001);
        due("a stuff ahead of its trace", told(x, "cut 1;stuff 1 1 1 1;grain 0 0;"), 3);
        due("a stuff behind its copy", told(x, "copy 0 0;stuff 1 1 1 1;"), -1000);
        due("the last one stays", told(x, "years 3;years 4;years 5;"), 3);
        due("years", x.put(YEARS, 1), 5);
        due("told twice it is the same", x.statue(), 3);
        due("again", x.put(YEARS, 1), 5);
    }

    private static void refusedItems() {
        of("the first ITEM that is refused (as its call is): nothing changes");
        PaintedGods x = one();
        x.trace(3, CUT, 0);
        long before = x.digest();
        int[] refusals = new int[] {x.status(0), x.status(1), x.status(2)};
        due("the first of two", told(x, "years 60;like 9;like 10;turn 3;turn 4;"), -1002);
        due("a fifth stuff", told(x, "stuff1 1 1 1;".repeat(5)), -1004);
        due("a twenty-first trace", told(x, "cut 3;".repeat(21)), -1020);
        due("a fault is told first", told(x, "like 10;like"), -10 - 12);
        x.clear();
        due("nothing changes", x.digest(), before);
        for (int what = 0; what < 3; what++) {
            due("ITEMS are none of STATUS", x.status(what), refusals[what]);
        }
    }

    // ---- images, status, the fraction

    private static void images() {
        of("IMAGES 0, 1 keep all but them, THE TEXT, THE FRACTION and STATUS; it goes on from one");
        PaintedGods x = new PaintedGods();
        due("image 0 of nothing", x.image(0), 1);
        x.stuff(6, 2, 3, 1);
        x.trace(0, CUT, 0);
        x.trace(1, CUT, 0);
        x.aside(1, true);
        x.copy(2, 0);
        x.habit(0, 4);
        x.put(TURN, 3);
        due("image 1 of something", x.image(1), 1);
        type(x, "turn 1");
        x.odds(0, 0);
        due("from 0", x.from(0), 1);
        due("no stuff", x.count(0), 0);
        due("no trace", x.count(1), 0);
        due("the text is kept", x.count(3), 6);
        due("the fraction is kept", x.sign(2), 1);
        due("no copy", x.copy(2, NONE), NONE);
        due("no habit", x.habit(0, 1), 1);
        due("no turn", x.put(TURN, 0), 0);
        due("from 1: image 1 is kept", x.from(1), 1);
        due("a stuff", x.count(0), 1);
        due("two traces", x.count(1), 2);
        due("one aside", x.count(2), 1);
        due("the copy", x.copy(2, NONE), 0);
        due("the habit", x.habit(0, 1), 4);
        due("the turn", x.put(TURN, 0), 3);
        due("from 1 again: changes did not reach it", x.from(1), 1);
        due("the habit again", x.habit(0, 1), 4);
        due("-1", x.image(-1), BAD);
        due("2", x.image(2), BAD);
        due("from -1", x.from(-1), BAD);
        due("from 2", x.from(2), BAD);
        due("none was kept", new PaintedGods().from(1), NO);
        PaintedGods y = new PaintedGods();
        y.image(1);
        due("the other one was kept", y.from(0), NO);
    }

    private static void imagesOfStuffs() {
        of("IMAGES 0, 1 keep all: of STUFFS the four");
        PaintedGods x = with(20, 3, 5, 7);
        x.put(YEARS, 0);
        x.image(0);
        due("another stuff", told(x, "stuff 30 8 2 9;years 0;"), 2);
        x.image(1);
        for (int image = 0; image < 2; image++) {
            due("from", x.from(image), 1);
            due("THICK", x.left(0, 1, 0), image == 0 ? 20 : 30);
            due("BRIGHT", x.bright(0, 0), image == 0 ? 3 : 8);
            due("SHINES lamp 0", x.shines(0, 1, 0), image == 0 ? 1 : 0);
            due("SHINES lamp 1", x.shines(0, 1, 1), image == 0 ? 0 : 1);
            x.put(YEARS, image == 0 ? 13 : 21);
            due("LEAST is left", x.shines(0, 1, image), 1);
            x.put(YEARS, image == 0 ? 14 : 22);
            due("less is left", x.shines(0, 1, image), 0);
        }
    }

    private static void asideAnew() {
        of("A TRACE may be set ASIDE: not so at first, where another one was ASIDE before, too");
        PaintedGods x = new PaintedGods();
        x.image(0);
        x.trace(0, CUT, 0);
        x.trace(1, CUT, 0);
        x.aside(0, true);
        x.aside(1, true);
        due("told anew", told(x, "cut 0;"), 1);
        due("by an item", x.count(2), 0);
        due("by a call", x.trace(1, CUT, 0), 1);
        due("none is aside", x.count(2), 0);
        x.aside(0, true);
        x.aside(1, true);
        due("two are", x.count(2), 2);
        due("from an image without them", x.from(0), 1);
        due("no trace", x.trace(0, CUT, 0), 0);
        due("none is aside now", x.count(2), 0);
        x.aside(0, true);
        x.stood(0);
        due("an item after a call that asks", x.statue(), 1);
        due("none of it is aside", x.count(2), 0);
        due("it is not so", x.aside(0, false), NO);
    }

    private static void zero() {
        of("THE FRACTION is 0 by 1 at first; lowest terms, below above 0");
        PaintedGods x = new PaintedGods();
        due("sign", x.sign(0), 0);
        due("limbs above", x.sign(1), 0);
        due("limbs below", x.sign(2), 1);
        due("limb above", x.limb(0, 0), NONE);
        due("limb below", x.limb(1, 0), 1);
        due("one limb below", x.limb(1, 1), NONE);
        PaintedGods y = bareOrCoat(6, 3);
        fraction("6 and 3 of 9", y, y.odds(0, 0), 2, 3);
        y.habit(1, 0);
        fraction("6 of 6", y, y.odds(0, 0), 1, 1);
        fraction("0 of 6", y, y.odds(0, 1), 0, 1);
        due("a refused call leaves it", y.odds(0, 2), BAD);
        due("it stays 0", y.sign(0), 0);
    }

    /** Where it is dry a cell counts 8, else 1: each trace at side 0 gives TURN 0 three bits more than the others. */
    private static void limbs() {
        of("Its limbs are digits to the base 1073741824, the lowest first");
        PaintedGods x = bareOrCoat(7, 1);
        x.put(RAIN, 0);
        for (int i = 0; i < 12; i++) {
            x.trace(i / 2 * 8 + i % 2, STANDS, 0);
        }
        x.aside(0, true);
        x.aside(2, true);
        due("ten cells", x.stood(0), 1);
        due("2 to the 30th has two limbs", x.sign(1), 2);
        due("the lowest", x.limb(0, 0), 0);
        due("the highest", x.limb(0, 1), 1);
        due("no third", x.limb(0, 2), NONE);
        due("and 3 has two, too", x.sign(2), 2);
        due("the lowest below", x.limb(1, 0), 3);
        due("the highest below", x.limb(1, 1), 1);
        due("none beyond", x.limb(1, Integer.MAX_VALUE), NONE);
        due("another turn", x.stood(3), 1);
        due("1 has one limb", x.sign(1), 1);
        due("it is 1", x.limb(0, 0), 1);
        due("below stay two", x.sign(2), 2);
        x.aside(4, true);
        due("nine cells", x.stood(0), 1);
        due("2 to the 27th has one limb", x.sign(1), 1);
        due("it", x.limb(0, 0), 1 << 27);
        due("below", x.limb(1, 0), (1 << 27) + 3);
    }

    private static void calls() {
        of("An object is used for at most 512 calls after it has been made");
        PaintedGods x = one();
        x.image(0);
        x.put(YEARS, 11);
        for (int call = 4; call <= 510; call++) {
            due("call " + call, x.from(1), NO);
        }
        due("call 511", x.left(47, 0, 2), 11);
        due("call 512", x.status(1), 507);
    }

    public static void main(String[] args) {
        cells();
        hems();
        sides();
        rain();
        turn();
        years();
        stuffs();
        stacks();
        noStacks();
        weather();
        traces();
        grain();
        shining();
        lamps();
        stands();
        worn();
        edges();
        edgesTogether();
        cut();
        aside();
        habits();
        like();
        nothing();
        greatest();
        greatestDark();
        odds();
        above();
        likeliest();
        stood();
        span();
        later();
        next();
        copies();
        rests();
        resting();
        bright();
        bytes();
        items();
        quarters();
        figures();
        everyByte();
        blanks();
        faults();
        endings();
        anew();
        refusedItems();
        images();
        imagesOfStuffs();
        asideAnew();
        zero();
        limbs();
        calls();
        System.out.println(wrong == 0 ? "all " + asked + " answers are as due" : wrong + " answers are not as due");
        if (wrong != 0) {
            System.exit(1);
        }
    }
}
