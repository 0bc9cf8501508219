/** For each promise of the document some calls with the answers that are due, worked out by hand. */
public final class PromiseTest {
    private static final int NONE = -1, BAD = -2, NO = -3, FULL = -4, BAD_COPY = -10;
    private static final int GRAIN = 0, SHINES = 1, DARK = 2, STANDS = 3, WORN = 4, EDGE = 5, CUT = 6;
    private static final int RAIN = 0, YEARS = 4, TURN = 5, LIKE = 6;
    private static final int MOST = Integer.MAX_VALUE, FEWEST = Integer.MIN_VALUE;

    private static int wrong = 0;
    private static int asked = 0;

    private static void due(String what, long got, long want) {
        asked++;
        if (got != want) {
            wrong++;
            System.out.println(what + " answered " + got + ", due is " + want);
        }
    }

    private static void fraction(String what, PaintedGods x, int answer, int over, int under) {
        due(what, answer, 1);
        due(what + ", above", x.limb(0, 0), over == 0 ? NONE : over);
        due(what + ", below", x.limb(1, 0), under);
        due(what + ", limbs below", x.sign(2), 1);
    }

    private static void write(PaintedGods x, String text) {
        x.clear();
        for (int i = 0; i < text.length(); i++) {
            x.type(text.charAt(i), 1);
        }
    }

    private static int told(PaintedGods x, String text) {
        write(x, text);
        return x.statue();
    }

    /** Two stuffs: 0 thin, shines under lamp 0 from 2 on; 1 thick, shines under lamps 1 and 2. */
    private static PaintedGods two() {
        PaintedGods x = new PaintedGods();
        x.stuff(4, 3, 1, 2);
        x.stuff(12, 7, 6, 1);
        return x;
    }

    private static PaintedGods one() {
        PaintedGods x = new PaintedGods();
        x.stuff(6, 2, 3, 1);
        return x;
    }

    private static void promise1() {
        PaintedGods x = new PaintedGods();
        for (int what = 0; what < 4; what++) {
            due("1 count(" + what + ")", x.count(what), 0);
        }
        for (int what = 0; what < 3; what++) {
            due("1 status(" + what + ")", x.status(what), 0);
        }
        due("1 sign(0)", x.sign(0), 0);
        due("1 sign(1)", x.sign(1), 0);
        due("1 sign(2)", x.sign(2), 1);
        due("1 limb(1, 0)", x.limb(1, 0), 1);
        due("1 from(0)", x.from(0), NO);
        due("1 from(1)", x.from(1), NO);
        int[] first = {1, 1, 1, 1, 10, 0, 3};
        for (int what = 0; what < 7; what++) {
            due("1 put(" + what + ", 1)", x.put(what, 1), first[what]);
        }
        for (int stack = 0; stack < 21; stack++) {
            due("1 habit(" + stack + ", 1)", x.habit(stack, 1), 1);
        }
        for (int cell = 0; cell < 48; cell++) {
            due("1 copy(" + cell + ", NONE)", x.copy(cell, NONE), NONE);
        }
        due("1 NONE", PaintedGods.NONE, -1);
        due("1 BAD", PaintedGods.BAD, -2);
        due("1 NO", PaintedGods.NO, -3);
        due("1 FULL", PaintedGods.FULL, -4);
        PaintedGods y = new PaintedGods();
        x.put(YEARS, 9);
        due("1 an object of its own", y.put(YEARS, 9), 10);
    }

    private static void promise2() {
        PaintedGods x = new PaintedGods();
        int[][] bad = {{0, 0, 0, 1}, {61, 0, 0, 1}, {1, -1, 0, 1}, {1, 10, 0, 1}, {1, 0, -1, 1}, {1, 0, 16, 1},
            {1, 0, 0, 0}, {1, 0, 0, 10}, {FEWEST, 0, 0, 1}, {1, MOST, 0, 1}, {1, 0, FEWEST, 1}, {1, 0, 0, MOST}};
        for (int[] b : bad) {
            due("2 a bad stuff", x.stuff(b[0], b[1], b[2], b[3]), BAD);
        }
        due("2 none came", x.count(0), 0);
        due("2 the least stuff", x.stuff(1, 0, 0, 1), 0);
        due("2 the greatest stuff", x.stuff(60, 9, 15, 9), 1);
        due("2 a third", x.stuff(30, 5, 7, 4), 2);
        due("2 a fourth", x.stuff(30, 5, 7, 4), 3);
        due("2 a fifth", x.stuff(30, 5, 7, 4), FULL);
        due("2 a bad fifth", x.stuff(61, 5, 7, 4), BAD);
        due("2 four are there", x.count(0), 4);
        due("2 BAD", x.status(0), bad.length + 1);
        due("2 FULL", x.status(2), 1);
    }

    private static void promise3() {
        PaintedGods x = new PaintedGods();
        int[] least = {0, 0, 0, 0, 0, 0, 1};
        int[] most = {5, 5, 5, 5, 60, 3, 9};
        int[] first = {1, 1, 1, 1, 10, 0, 3};
        for (int what = 0; what < 7; what++) {
            due("3 put too little in " + what, x.put(what, least[what] - 1), BAD);
            due("3 put too much in " + what, x.put(what, most[what] + 1), BAD);
            due("3 put the most in " + what, x.put(what, most[what]), first[what]);
            due("3 put the least in " + what, x.put(what, least[what]), most[what]);
            due("3 put the least again in " + what, x.put(what, least[what]), least[what]);
        }
        due("3 put(-1, 1)", x.put(-1, 1), BAD);
        due("3 put(7, 1)", x.put(7, 1), BAD);
        due("3 put(MOST, 1)", x.put(MOST, 1), BAD);
        due("3 put(FEWEST, 1)", x.put(FEWEST, 1), BAD);
        PaintedGods y = one();
        y.put(RAIN + 1, 5);
        y.put(YEARS, 3);
        due("3 rain and years", y.left(2, 0, 2), 15);
        due("3 another side", y.left(1, 0, 2), 3);
        y.put(TURN, 3);
        due("3 side 2 stands to quarter 1", y.left(4, 0, 2), 15);
        due("3 so does its second place", y.left(5, 0, 2), 15);
        due("3 and of another hem", y.left(13, 0, 2), 15);
        due("3 side 1 stands to quarter 0", y.left(3, 0, 2), 3);
    }

    private static void promise4() {
        PaintedGods x = new PaintedGods();
        due("4 habit(20, 9)", x.habit(20, 9), 1);
        due("4 habit(20, 0)", x.habit(20, 0), 9);
        due("4 habit(20, 10)", x.habit(20, 10), BAD);
        due("4 habit(20, -1)", x.habit(20, -1), BAD);
        due("4 habit(21, 1)", x.habit(21, 1), BAD);
        due("4 habit(-1, 1)", x.habit(-1, 1), BAD);
        due("4 habit(MOST, FEWEST)", x.habit(MOST, FEWEST), BAD);
        due("4 habit(20, 3)", x.habit(20, 3), 0);
        due("4 habit(0, 0)", x.habit(0, 0), 1);
        due("4 no stack that is there has a weight", x.odds(0, 0), NO);
        due("4 next()", x.next(), NO);
    }

    private static void promise5() {
        PaintedGods x = two();
        due("5 grain of a stuff that is not there", x.trace(0, GRAIN, 2), BAD);
        due("5 grain -1", x.trace(0, GRAIN, -1), BAD);
        for (int kind = SHINES; kind <= DARK; kind++) {
            due("5 lamp 4", x.trace(0, kind, 4), BAD);
            due("5 lamp -1", x.trace(0, kind, -1), BAD);
        }
        for (int kind = STANDS; kind <= EDGE; kind++) {
            due("5 lost 401", x.trace(0, kind, 401), BAD);
            due("5 lost -1", x.trace(0, kind, -1), BAD);
        }
        due("5 edge 0", x.trace(0, EDGE, 0), BAD);
        due("5 edge at the last place", x.trace(47, EDGE, 1), BAD);
        due("5 cut 1", x.trace(0, CUT, 1), BAD);
        due("5 cut -1", x.trace(0, CUT, -1), BAD);
        due("5 kind 7", x.trace(0, 7, 0), BAD);
        due("5 kind -1", x.trace(0, -1, 0), BAD);
        due("5 cell 48", x.trace(48, CUT, 0), BAD);
        due("5 cell -1", x.trace(-1, CUT, 0), BAD);
        int[][] good = {{0, GRAIN, 1}, {47, SHINES, 3}, {47, DARK, 0}, {0, STANDS, 0}, {0, STANDS, 400}, {0, WORN, 0},
            {0, WORN, 400}, {46, EDGE, 1}, {8, EDGE, 400}, {47, CUT, 0}};
        for (int i = 0; i < 20; i++) {
            int[] g = good[i % good.length];
            due("5 a trace", x.trace(g[0], g[1], g[2]), i);
        }
        due("5 one too many", x.trace(0, CUT, 0), FULL);
        due("5 a bad one too many", x.trace(0, CUT, 1), BAD);
        due("5 twenty are there", x.count(1), 20);
    }

    private static void promise6() {
        PaintedGods x = one();
        due("6 none is there", x.aside(0, true), BAD);
        x.trace(0, WORN, 400);
        due("6 not so far", x.aside(0, false), NO);
        due("6 so no row is", x.odds(0, 0), NO);
        due("6 aside", x.aside(0, true), 1);
        due("6 count", x.count(2), 1);
        due("6 it is so", x.aside(0, true), NO);
        due("6 rows are", x.odds(0, 0), 1);
        due("6 not again", x.aside(0, false), 1);
        due("6 count again", x.count(2), 0);
        due("6 aside(1)", x.aside(1, true), BAD);
        due("6 aside(-1)", x.aside(-1, false), BAD);
        due("6 aside(MOST)", x.aside(MOST, false), BAD);
        due("6 status BAD", x.status(0), 4);
        due("6 status NO", x.status(1), 3);
    }

    private static void promise7() {
        PaintedGods x = two();
        due("7 copy(47, 1)", x.copy(47, 1), NONE);
        due("7 copy(47, 0)", x.copy(47, 0), 1);
        due("7 copy(47, NONE)", x.copy(47, NONE), 0);
        due("7 copy(0, 2)", x.copy(0, 2), BAD_COPY);
        due("7 copy(0, -2)", x.copy(0, -2), BAD_COPY);
        due("7 copy(48, 0)", x.copy(48, 0), BAD_COPY);
        due("7 copy(-1, 0)", x.copy(-1, 0), BAD_COPY);
        due("7 it counts as BAD", x.status(0), 4);
        due("7 nothing changed", x.copy(0, NONE), NONE);
    }

    private static void promise8() {
        PaintedGods x = new PaintedGods();
        due("8 type none", x.type(65, 0), BAD);
        due("8 type nine", x.type(65, 9), BAD);
        due("8 type FEWEST", x.type(65, FEWEST), BAD);
        due("8 the lowest two", x.type(0x7A7A7A7A74750000L >> 16, 2), 2);
        due("8 it is a tu", x.statue(), -10);
        due("8 the highest first", x.type(0x726E20333BL, 5), 7);
        due("8 it is turn 3", x.statue(), 1);
        due("8 so TURN is 3", x.put(TURN, 0), 3);
        x.clear();
        for (int i = 1; i <= 37; i++) {
            due("8 eight", x.type(-1, 8), 8 * i);
        }
        due("8 five do not go in", x.type(-1, 5), FULL);
        due("8 four do", x.type(-1, 4), 300);
        due("8 one does not", x.type(0, 1), FULL);
        due("8 nor bad", x.type(0, 9), BAD);
        due("8 count", x.count(3), 300);
        due("8 a byte of all bits begins no token", x.statue(), -10);
    }

    private static void promise9() {
        PaintedGods x = new PaintedGods();
        due("9 clear()", x.clear(), 0);
        x.type(0x3B, 3);
        due("9 three", x.clear(), 3);
        due("9 none", x.clear(), 0);
        due("9 count", x.count(3), 0);
        x.type(0x20, 1);
        due("9 from the start", x.count(3), 1);
        due("9 the old bytes are gone", x.statue(), 0);
    }

    private static void promise10() {
        PaintedGods x = two();
        x.put(YEARS, 30);
        x.habit(3, 7);
        x.trace(0, CUT, 0);
        x.copy(4, 1);
        due("10 an empty text has no item", x.statue(), 0);
        due("10 all is as at first", x.digest(), new PaintedGods().digest());
        due("10 blanks", told(x, "   "), 0);
        String all = "stuff 4 3 1 2;stuff12 7 6 1 ; rain 3 5;years 60;turn 2;like 9;habit 20 0;grain 47 1;"
                + "shines 0 3;dark 1 0;stands 2 400;worn 3 0;edge 14 400;cut 8;copy 9 1;";
        due("10 each word", told(x, all), 15);
        PaintedGods y = two();
        y.put(RAIN + 3, 5);
        y.put(YEARS, 60);
        y.put(TURN, 2);
        y.put(LIKE, 9);
        y.habit(20, 0);
        int[][] traces = {{47, GRAIN, 1}, {0, SHINES, 3}, {1, DARK, 0}, {2, STANDS, 400}, {3, WORN, 0}, {14, EDGE, 400},
            {8, CUT, 0}};
        for (int[] t : traces) {
            y.trace(t[0], t[1], t[2]);
        }
        y.copy(9, 1);
        write(y, all);
        due("10 as by calls", x.digest(), y.digest());
        due("10 the status tells of no item", x.status(0) + x.status(1) + x.status(2), 0);
        due("10 blanks where they are not needed", told(x, " years 7;like 4 ; "), 2);
        due("10 told anew", x.count(0), 0);
        due("10 years", x.put(YEARS, 7), 7);
        promise10Faults();
        promise10Refusals();
    }

    private static void promise10Faults() {
        String[] texts = {"year 7;", "yearss 7;", "years", "years ", "years 7", "years 7  ", "years;", "years years;",
            "years 1000;", "years 0001;", "years 7 7;", ";", " 7;", "years 7;;", "Years 7;", "years -7;", "cut 1 2;",
            "cut 1;cut", "stuff 1 2 3;", "rain 1;", "copy 1 a;", "years 7\n;", "years 7;\0", "years61;x", "rain 9 1;x",
            "stuff1 2 3 4", "years 12345;", "a", "yearsturn 1;", "years 7;turn", "habit 1 0000;", "z7;"};
        int[] faults = {0, 0, 5, 6, 7, 9, 5, 6, 6, 6, 8, 0, 1, 8, 0, 6, 6, 9, 11, 6, 7, 7, 8, 8, 9, 12, 6, 0, 0, 12, 8, 0};
        PaintedGods x = one();
        long before = x.digest();
        for (int i = 0; i < texts.length; i++) {
            due("10 the fault of " + texts[i], told(x, texts[i]), -10 - faults[i]);
        }
        x.clear();
        due("10 nothing changed by a fault", x.digest(), before);
        due("10 a fault is no refusal", x.status(0), 0);
    }

    private static void promise10Refusals() {
        PaintedGods x = one();
        long before = x.digest();
        String[] refused = {"stuff 0 1 1 1;", "stuff 61 1 1 1;", "rain 4 1;", "rain 5 1;", "rain 6 1;", "rain 0 6;",
            "years 61;", "turn 4;", "like 0;", "like 10;", "habit 21 1;", "habit 0 10;", "grain 0 0;", "shines 0 4;",
            "dark 48 0;", "stands 0 401;", "worn 0 401;", "edge 7 1;", "edge 0 0;", "cut 48;", "copy 0 0;", "copy 48 0;"};
        for (String item : refused) {
            due("10 refused: " + item, told(x, item), -1000);
            due("10 refused second: " + item, told(x, "years 1;" + item + "like 0;"), -1001);
        }
        due("10 a fault is ahead of a refusal", told(x, "years 61;years"), -24);
        due("10 a fifth stuff", told(x, "stuff 1 1 1 1;stuff 1 1 1 1;stuff 1 1 1 1;stuff 1 1 1 1;stuff 1 1 1 1;"),
                -1004);
        StringBuilder cuts = new StringBuilder();
        for (int i = 0; i < 21; i++) {
            cuts.append("cut ").append(i).append(';');
        }
        due("10 a trace too many", told(x, cuts.toString()), -1020);
        x.clear();
        due("10 nothing changed by a refusal", x.digest(), before);
        due("10 items are no calls", x.status(0) + x.status(2), 0);
    }

    private static void promise11() {
        PaintedGods x = two();
        int[][] rows = {{0, 0, 0, 10}, {1, 0, 0, 6}, {2, 2, 0, 0}, {5, 0, 0, 2}, {6, 4, 2, 0}, {9, 6, 0, 0}, {10, 12, 2, 0}};
        for (int[] r : rows) {
            for (int what = 0; what < 3; what++) {
                due("11 left of stack " + r[0], x.left(9, r[0], what), r[1 + what]);
            }
        }
        x.put(RAIN + 3, 5);
        x.put(YEARS, 60);
        due("11 the most that can be lost", x.left(47, 0, 2), 300);
        due("11 cell 48", x.left(48, 0, 0), BAD);
        due("11 cell -1", x.left(-1, 0, 0), BAD);
        due("11 what 3", x.left(0, 0, 3), BAD);
        due("11 what -1", x.left(0, 0, -1), BAD);
        for (int none : new int[] {-1, 3, 4, 7, 8, 11, 12, 13, 14, 17, 20, 21, MOST, FEWEST}) {
            due("11 a stack that is none: " + none, x.left(0, none, 0), BAD);
        }
    }

    private static void promise12() {
        PaintedGods x = two();
        x.put(YEARS, 2);
        due("12 as much as LEAST is left", x.shines(0, 1, 0), 1);
        due("12 not under another lamp", x.shines(0, 1, 1), 0);
        x.put(YEARS, 3);
        due("12 less is left", x.shines(0, 1, 0), 0);
        due("12 the ground shines", x.shines(0, 9, 1), 1);
        due("12 the coat above too little", x.shines(0, 9, 0), 0);
        due("12 each coat has its own: 1 above, 4 below", x.shines(0, 5, 0), 1);
        due("12 bare", x.shines(0, 0, 0), 0);
        x.stuff(2, 0, 8, 3);
        x.put(YEARS, 0);
        due("12 two coats of 2 are none of 3", x.shines(0, 15, 3), 0);
        due("12 lamp 4", x.shines(0, 0, 4), BAD);
        due("12 lamp -1", x.shines(0, 0, -1), BAD);
        due("12 stack 4", x.shines(0, 4, 0), BAD);
        due("12 cell 48", x.shines(48, 0, 0), BAD);
        due("12 cell -1", x.shines(-1, 0, 0), BAD);
    }

    private static void fitsOnly(int kind, int v, int... stacks) {
        PaintedGods x = two();
        x.trace(10, kind, v);
        for (int stack : new int[] {0, 1, 2, 5, 6, 9, 10}) {
            int want = 0;
            for (int s : stacks) {
                want = s == stack ? 1 : want;
            }
            due("13 kind " + kind + " " + v + " fits stack " + stack, x.fits(10, stack), want);
            due("13 at another cell", x.fits(11, stack), 1);
            x.aside(0, true);
            due("13 aside", x.fits(10, stack), 1);
            x.aside(0, false);
        }
    }

    private static void promise13() {
        fitsOnly(GRAIN, 0, 6);
        fitsOnly(GRAIN, 1, 2, 6, 9, 10);
        fitsOnly(SHINES, 0, 6);
        fitsOnly(DARK, 0, 0, 1, 2, 5, 9, 10);
        fitsOnly(SHINES, 2, 2, 6, 9, 10);
        fitsOnly(DARK, 3, 0, 1, 2, 5, 6, 9, 10);
        fitsOnly(STANDS, 2, 2, 5, 6, 9, 10);
        fitsOnly(STANDS, 1, 2, 6, 9, 10);
        fitsOnly(WORN, 6, 0, 1);
        fitsOnly(WORN, 7, 0);
        fitsOnly(WORN, 0, 0, 1, 2, 5, 6, 9, 10);
        fitsOnly(EDGE, 400, 0, 1, 2, 5, 6, 9, 10);
        fitsOnly(CUT, 0, 1, 2, 5, 6, 9, 10);
        PaintedGods y = two();
        y.put(YEARS, 11);
        y.trace(0, GRAIN, 1);
        due("13 one grain is left above", y.fits(0, 6), 1);
        due("13 one grain is left of one coat", y.fits(0, 2), 1);
        y.put(YEARS, 12);
        due("13 none is left above", y.fits(0, 6), 0);
        due("13 but below", y.fits(0, 9), 1);
        PaintedGods x = two();
        x.habit(2, 0);
        due("13 a habit is no trace", x.fits(0, 2), 1);
        x.trace(0, CUT, 0);
        due("13 nor when others are", x.fits(0, 2), 1);
        x.trace(0, DARK, 1);
        due("13 all of them", x.fits(0, 2), 0);
        due("13 stack 7", x.fits(0, 7), BAD);
        due("13 stack 21", x.fits(0, 21), BAD);
        due("13 cell 48", x.fits(48, 0), BAD);
        due("13 cell -1", x.fits(-1, 0), BAD);
    }

    private static void promise14() {
        PaintedGods x = two();
        fraction("14 of seven like ones", x, x.odds(20, 6), 1, 7);
        x.put(LIKE, 1);
        x.habit(1, 3);
        fraction("14 by habits", x, x.odds(20, 1), 1, 3);
        x.put(LIKE, 2);
        x.trace(20, STANDS, 0);
        x.trace(20, GRAIN, 0);
        fraction("14 one alone", x, x.odds(20, 6), 1, 1);
        // Behind cell 21 stand two more: 6 * 10 + 3 * 12 + 10 = 106 by a stack, 132 by stack 1, of HABIT 3.
        fraction("14 the neighbour: 2 * 106 of 2 * 106 + 5 * 106 + 3 * 132", x, x.odds(21, 6), 106, 569);
        fraction("14 not at all", x, x.odds(20, 0), 0, 1);
        due("14 its sign", x.sign(0), 0);
        due("14 cell 48", x.odds(48, 0), BAD);
        due("14 stack 3", x.odds(0, 3), BAD);
        due("14 stack -1", x.odds(0, -1), BAD);
        x.trace(20, DARK, 0);
        long before = x.digest();
        due("14 its hem can not be", x.odds(16, 0), NO);
        due("14 nothing changed", x.digest(), before);
        due("14 another hem can", x.odds(24, 0), 1);
    }

    private static void edges() {
        PaintedGods x = one();
        x.put(LIKE, 1);
        x.trace(0, EDGE, 6);
        fraction("14 an edge of 6: lost 4 and 10, 0 and 10", x, x.odds(0, 1), 1, 2);
        fraction("14 above it not bare", x, x.odds(0, 0), 0, 1);
        fraction("14 below it bare", x, x.odds(1, 0), 1, 1);
        fraction("14 the rest is free", x, x.odds(2, 0), 1, 3);
        x.aside(0, true);
        x.trace(0, EDGE, 4);
        fraction("14 an edge of 4: 0 4, 0 10, 4 10", x, x.odds(0, 5), 2, 3);
        fraction("14 and the next", x, x.odds(1, 1), 1, 3);
        x.trace(0, EDGE, 11);
        due("14 an edge that can not be", x.odds(7, 0), NO);
    }

    private static void promise15() {
        PaintedGods x = two();
        fraction("15 four of seven", x, x.above(0), 4, 7);
        x.trace(0, CUT, 0);
        x.put(LIKE, 1);
        fraction("15 four of six", x, x.above(0), 2, 3);
        fraction("15 none, without a stuff", new PaintedGods(), 1, 0, 1);
        due("15 cell 48", x.above(48), BAD);
        due("15 cell -1", x.above(-1), BAD);
        x.trace(1, WORN, 11);
        due("15 no row", x.above(7), NO);
        due("15 another hem", x.above(8), 1);
    }

    private static void promise16() {
        PaintedGods x = two();
        for (int place = 0; place < 8; place++) {
            due("16 of like ones the first", x.likeliest(5, place), 0);
        }
        x.habit(9, 2);
        x.habit(10, 2);
        due("16 by habits", x.likeliest(5, 3), 9);
        x.trace(40, DARK, 0);
        x.trace(47, GRAIN, 0);
        due("16 to the last but one", x.likeliest(5, 6), 9);
        due("16 a trace at the last", x.likeliest(5, 7), 6);
        x.put(LIKE, 1);
        x.habit(9, 1);
        x.habit(10, 1);
        due("16 the first of all at a place", x.likeliest(5, 0), 0);
        due("16 the last place", x.likeliest(5, 7), 6);
        due("16 hem 6", x.likeliest(6, 0), BAD);
        due("16 hem -1", x.likeliest(-1, 0), BAD);
        due("16 place 8", x.likeliest(0, 8), BAD);
        due("16 place -1", x.likeliest(0, -1), BAD);
        x.trace(0, WORN, 11);
        due("16 no row", x.likeliest(0, 5), NO);
        due("16 a bad place of it", x.likeliest(0, 8), BAD);
        PaintedGods y = one();
        y.trace(1, EDGE, 4);
        due("16 an edge", y.likeliest(0, 1), 1);
        due("16 behind it", y.likeliest(0, 2), 0);
    }

    private static void promise17() {
        PaintedGods x = two();
        for (int turn = 0; turn < 4; turn++) {
            fraction("17 nothing tells of a turn", x, x.stood(turn), 1, 4);
        }
        x.put(RAIN + 2, 0);
        x.trace(0, WORN, 10);
        fraction("17 it rained: not turn 2", x, x.stood(2), 0, 1);
        fraction("17 one of three", x, x.stood(1), 1, 3);
        x.put(TURN, 2);
        fraction("17 whatever TURN is now", x, x.stood(0), 1, 3);
        due("17 though its hem can not be so", x.odds(0, 0), NO);
        due("17 TURN is as it was", x.put(TURN, 0), 2);
        x.trace(8, WORN, 11);
        due("17 not by another hem", x.stood(0), NO);
        due("17 turn 4", x.stood(4), BAD);
        due("17 turn -1", x.stood(-1), BAD);
        PaintedGods y = one();
        y.put(LIKE, 1);
        y.put(RAIN, 0);
        y.trace(0, STANDS, 0);
        fraction("17 two of nine in quarter 0, one in others", y, y.stood(0), 1, 2);
        fraction("17 the others", y, y.stood(3), 1, 6);
    }

    private static void promise18() {
        PaintedGods x = one();
        due("18 the least", x.span(0, 0), 1);
        due("18 the greatest", x.span(0, 1), 60);
        x.trace(0, CUT, 0);
        x.trace(0, WORN, 3);
        due("18 one coat at most 7", x.span(0, 1), 7);
        x.trace(30, STANDS, 4);
        due("18 two coats of 3", x.span(0, 0), 3);
        due("18 its own stays", x.left(0, 1, 2), 4);
        x.trace(31, STANDS, 0);
        x.trace(31, WORN, 1);
        due("18 none", x.span(0, 0), NONE);
        due("18 none at all", x.span(0, 1), NONE);
        due("18 NONE is no refusal", x.status(0) + x.status(1), 0);
        due("18 stuff 1", x.span(1, 0), BAD);
        due("18 stuff -1", x.span(-1, 0), BAD);
        due("18 what 2", x.span(0, 2), BAD);
        due("18 what -1", x.span(0, -1), BAD);
    }

    private static void promise19() {
        PaintedGods x = one();
        due("19 none needed", x.later(0), 0);
        x.trace(0, STANDS, 400);
        x.trace(0, STANDS, 0);
        x.trace(0, WORN, 1);
        due("19 one of two: the least", x.later(0), 2);
        due("19 not by another hem", x.later(1), 0);
        x.trace(0, STANDS, 0);
        due("19 the one against two", x.later(0), 4);
        x.trace(0, WORN, 1);
        due("19 two of four", x.later(0), 2 + 8);
        x.trace(1, WORN, 11);
        due("19 three", x.later(0), 2 + 8 + 32);
        x.trace(7, WORN, 11);
        due("19 three do not do", x.later(0), -5);
        x.aside(5, true);
        due("19 one is aside", x.later(0), 2 + 8 + 64);
        due("19 hem 6", x.later(6), BAD);
        due("19 hem -1", x.later(-1), BAD);
        due("19 -5 is no refusal", x.status(0), 2);
        PaintedGods y = one();
        y.habit(0, 0);
        y.habit(1, 0);
        y.habit(5, 0);
        due("19 no trace helps", y.later(3), -5);
        for (int i = 0; i < 2; i++) {
            PaintedGods w = one();
            for (int cell = 8; cell < 10 + i; cell++) {
                w.trace(cell, WORN, 11);
            }
            due("19 from the first trace on", w.later(1), i == 0 ? 3 : 7);
        }
        PaintedGods z = one();
        z.trace(0, EDGE, 11);
        z.trace(0, EDGE, 1);
        due("19 an edge", z.later(0), 1);
        z.aside(0, true);
        due("19 the other can be", z.later(0), 0);
        for (int i = 2; i < 20; i++) {
            z.trace(8 + i % 8, i < 17 ? CUT : WORN, i < 17 ? 0 : 11);
        }
        due("19 the last three of twenty", z.later(1), 7 << 17);
    }

    private static void promise20() {
        PaintedGods x = new PaintedGods();
        due("20 of like ones the first", x.next(), 0);
        x.stuff(20, 1, 2, 1);
        due("20 two of three shine under lamp 1", x.next(), 1);
        x.put(RAIN + 1, 3);
        x.habit(0, 0);
        due("20 half at a side that it rains on", x.next(), 21);
        x.trace(2, WORN, 400);
        due("20 the next hem, as the first can not be", x.next(), 101);
        PaintedGods y = one();
        y.put(LIKE, 1);
        y.put(YEARS, 0);
        y.trace(47, CUT, 0);
        due("20 two of three are as far as any", y.next(), 0);
        y.habit(0, 3);
        due("20 now 2 of 5 is near", y.next(), 0);
        y.habit(0, 2);
        due("20 a half of all", y.next(), 0);
        y.trace(0, SHINES, 0);
        due("20 one that is known is far", y.next(), 10);
        for (int hem = 0; hem < 6; hem++) {
            y.trace(8 * hem, WORN, 1);
        }
        due("20 no hem can be", y.next(), NO);
    }

    private static void promise21() {
        PaintedGods x = two();
        x.put(LIKE, 1);
        due("21 bare: one of seven", x.rests(0), 2);
        x.copy(0, 0);
        due("21 three of seven", x.rests(0), 2);
        x.habit(0, 0);
        due("21 three of six", x.rests(0), 2);
        x.habit(9, 2);
        due("21 more than a half", x.rests(0), 1);
        x.copy(0, NONE);
        due("21 it is not bare", x.rests(0), 3);
        x.trace(0, GRAIN, 1);
        x.trace(0, WORN, 0);
        x.habit(9, 0);
        x.copy(0, 1);
        due("21 each that can be has it on top", x.rests(0), 0);
        due("21 cell 48", x.rests(48), BAD);
        due("21 cell -1", x.rests(-1), BAD);
        x.trace(1, WORN, 11);
        due("21 no row", x.rests(0), NO);
    }

    private static void promise22() {
        PaintedGods x = two();
        x.put(LIKE, 1);
        x.copy(8, 0);
        x.trace(9, CUT, 0);
        x.trace(10, GRAIN, 1);
        x.copy(10, 1);
        int[] want = {0, 1, 6, 1};
        for (int what = 0; what < 4; what++) {
            due("22 resting(1, " + what + ")", x.resting(1, what), want[what]);
        }
        due("22 another hem", x.resting(2, 2), 8);
        due("22 what 4", x.resting(0, 4), BAD);
        due("22 what -1", x.resting(0, -1), BAD);
        due("22 hem 6", x.resting(6, 0), BAD);
        due("22 hem -1", x.resting(-1, 0), BAD);
        x.trace(15, WORN, 11);
        due("22 no row", x.resting(1, 0), NO);
        due("22 bad ahead of no", x.resting(1, 4), BAD);
    }

    private static void promise23() {
        PaintedGods x = two();
        due("23 the least", x.bright(0, 0), 3);
        due("23 the greatest, bare", x.bright(0, 1), 9);
        fraction("23 the mean: 9, three of 3, three of 7", x, x.bright(0, 2), 39, 7);
        x.trace(0, CUT, 0);
        due("23 the greatest of a coat", x.bright(0, 1), 7);
        x.trace(0, WORN, 6);
        due("23 the least and the greatest are one", x.bright(0, 1), 3);
        fraction("23 the mean of one", x, x.bright(0, 2), 3, 1);
        long before = x.digest();
        x.bright(1, 0);
        x.bright(1, 1);
        due("23 the fraction is for the mean alone", x.digest(), before);
        due("23 without a stuff", new PaintedGods().bright(47, 0), 9);
        due("23 what 3", x.bright(0, 3), BAD);
        due("23 what -1", x.bright(0, -1), BAD);
        due("23 cell 48", x.bright(48, 0), BAD);
        due("23 cell -1", x.bright(-1, 0), BAD);
        x.trace(7, WORN, 11);
        for (int what = 0; what < 3; what++) {
            due("23 no row", x.bright(0, what), NO);
        }
    }

    private static void promise24() {
        PaintedGods x = two();
        due("24 sign", x.sign(0), 0);
        due("24 no limb above", x.sign(1), 0);
        due("24 one below", x.sign(2), 1);
        x.above(0);
        due("24 above 0", x.sign(0), 1);
        due("24 one above", x.sign(1), 1);
        x.habit(1, 9);
        x.habit(6, 7);
        x.odds(0, 1);
        due("24 two limbs above", x.sign(1), 2);
        due("24 two below", x.sign(2), 2);
        due("24 what 3", x.sign(3), BAD);
        due("24 what -1", x.sign(-1), BAD);
    }

    private static void promise25() {
        PaintedGods x = new PaintedGods();
        x.stuff(1, 1, 1, 1);
        x.put(LIKE, 9);
        x.habit(0, 9);
        x.put(YEARS, 0);
        x.trace(0, CUT, 0);
        due("25 odds", x.odds(7, 0), 1);
        long over = (long) x.limb(0, 1) << 30 | x.limb(0, 0);
        long under = (long) x.limb(1, 1) << 30 | x.limb(1, 0);
        // The pair of weights (bare; one coat and two, alike) goes from place to place by 9 and 1 times, or 9 times and 1.
        long bare = 0;
        long coated = 1;
        for (int place = 1; place < 8; place++) {
            long nextBare = 9 * (9 * bare + 2 * coated);
            coated = bare + 10 * coated;
            bare = nextBare;
        }
        long all = bare + 2 * coated;
        due("25 the same fraction", over * 1000 / under, bare * 1000 / all);
        due("25 in lowest terms", gcd(over, under), 1);
        due("25 times their common part", over * gcd(bare, all), bare);
        due("25 a limb too high above", x.limb(0, 2), NONE);
        due("25 one too high below", x.limb(1, MOST), NONE);
        due("25 limb -1", x.limb(0, -1), BAD);
        due("25 limb FEWEST", x.limb(1, FEWEST), BAD);
        due("25 which 2", x.limb(2, 0), BAD);
        due("25 which -1", x.limb(-1, 0), BAD);
        due("25 NONE is no refusal", x.status(0), 4);
        due("25 no limb of 0", new PaintedGods().limb(0, 0), NONE);
    }

    private static long gcd(long a, long b) {
        return b == 0 ? a : gcd(b, a % b);
    }

    private static void promise26() {
        PaintedGods x = two();
        due("26 image 0", x.image(0), 1);
        due("26 image 1", x.image(1), 1);
        due("26 again", x.image(1), 1);
        due("26 image 2", x.image(2), BAD);
        due("26 image -1", x.image(-1), BAD);
    }

    private static void promise27() {
        PaintedGods x = two();
        x.trace(3, GRAIN, 1);
        x.trace(4, CUT, 0);
        x.aside(1, true);
        x.copy(5, 1);
        x.habit(6, 5);
        x.put(YEARS, 4);
        long first = x.digest();
        x.image(0);
        due("27 none was kept", x.from(1), NO);
        x.stuff(9, 9, 9, 9);
        x.trace(5, CUT, 0);
        x.aside(1, false);
        x.copy(5, 0);
        x.habit(6, 2);
        x.put(YEARS, 5);
        x.put(RAIN, 5);
        x.put(TURN, 1);
        long second = x.digest();
        x.image(1);
        due("27 from 0", x.from(0), 1);
        due("27 as it was", x.digest(), first);
        x.trace(6, CUT, 0);
        due("27 an image stays as it was kept", x.from(0), 1);
        due("27 as it was again", x.digest(), first);
        due("27 from 1", x.from(1), 1);
        due("27 as the other", x.digest(), second);
        x.type(1, 5);
        x.above(9);
        x.from(0);
        due("27 THE TEXT stays", x.count(3), 5);
        due("27 THE FRACTION stays", x.sign(0), 1);
        due("27 STATUS stays", x.status(1), 1);
        told(x, "years 3;");
        due("27 a statue told anew keeps the images", x.from(1), 1);
        x.clear();
        due("27 from 2", x.from(2), BAD);
        due("27 from -1", x.from(-1), BAD);
    }

    private static void promise28() {
        PaintedGods x = new PaintedGods();
        due("28 another what", x.status(3), -1);
        due("28 counts as BAD", x.status(0), 1);
        due("28 another what", x.status(-1), -1);
        due("28 status(0)", x.status(0), 2);
        x.from(0);
        due("28 NO", x.status(1), 1);
        for (int i = 0; i < 6; i++) {
            x.stuff(1, 1, 1, 1);
        }
        due("28 FULL", x.status(2), 2);
        x.copy(48, 0);
        x.count(4);
        x.digest();
        due("28 BAD", x.status(0), 4);
        told(x, "years 99;");
        told(x, "years");
        due("28 the text's answers are none", x.status(0), 4);
        x.image(0);
        x.from(0);
        due("28 an image keeps none", x.status(0), 4);
    }

    private static void promise29() {
        PaintedGods x = two();
        x.trace(0, CUT, 0);
        x.trace(1, CUT, 0);
        x.trace(2, CUT, 0);
        x.aside(1, true);
        x.type(0, 4);
        int[] want = {2, 3, 1, 4};
        for (int what = 0; what < 4; what++) {
            due("29 count(" + what + ")", x.count(what), want[what]);
        }
        due("29 count(4)", x.count(4), BAD);
        due("29 count(-1)", x.count(-1), BAD);
    }

    private static long mix(int... values) {
        long h = 557;
        for (int v : values) {
            h = 31 * h + v;
        }
        return h;
    }

    private static void promise30() {
        PaintedGods x = new PaintedGods();
        int[] at = new int[4 + 7 + 21 + 48 + 4];
        int i = 4;
        for (int v : new int[] {1, 1, 1, 1, 10, 0, 3}) {
            at[i++] = v;
        }
        for (; i < 32; i++) {
            at[i] = 1;
        }
        for (; i < 80; i++) {
            at[i] = NONE;
        }
        at[82] = 1;
        at[83] = 1;
        due("30 a new object", x.digest(), mix(at));
        x.stuff(6, 2, 3, 1);
        x.trace(1, WORN, 5);
        x.aside(0, true);
        x.type(0, 2);
        x.copy(47, 0);
        x.put(LIKE, 1);
        x.odds(0, 0);
        int[] more = new int[at.length + 4 + 4 + 1];
        System.arraycopy(at, 4, more, 8, 28);
        more[0] = 1;
        more[1] = 1;
        more[2] = 1;
        more[3] = 2;
        int[] stuff = {6, 2, 3, 1};
        System.arraycopy(stuff, 0, more, 4, 4);
        more[14] = 1;
        int[] trace = {1, WORN, 5, 1};
        System.arraycopy(trace, 0, more, 36, 4);
        System.arraycopy(at, 32, more, 40, 48);
        more[87] = 0;
        int[] third = {1, 1, 1, 1, 3};
        System.arraycopy(third, 0, more, 88, 5);
        due("30 with one of each", x.digest(), mix(more));
    }

    public static void main(String[] args) {
        promise1();
        promise2();
        promise3();
        promise4();
        promise5();
        promise6();
        promise7();
        promise8();
        promise9();
        promise10();
        promise11();
        promise12();
        promise13();
        promise14();
        edges();
        promise15();
        promise16();
        promise17();
        promise18();
        promise19();
        promise20();
        promise21();
        promise22();
        promise23();
        promise24();
        promise25();
        promise26();
        promise27();
        promise28();
        promise29();
        promise30();
        System.out.println(wrong == 0 ? "all " + asked + " answers are as due" : wrong + " answers are not as due");
        if (wrong != 0) {
            System.exit(1);
        }
    }
}
