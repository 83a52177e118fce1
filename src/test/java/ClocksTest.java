/** Promises 23 to 34: clocks, copies, towns, surveys, sailings. */
public final class ClocksTest {
    private static final int BAD = CoastThree.BAD, NO = CoastThree.NO, NONE = CoastThree.NONE;
    private static final int NOTHING = CoastThree.NOTHING, KIND = CoastThree.KIND;
    private static final int MIN = Integer.MIN_VALUE, MAX = Integer.MAX_VALUE;
    private static final Due due = new Due();

    public static void main(String[] args) {
        clocksAreSet();
        settings();
        settingsOfEachCape();
        settingsOfSeveralCapes();
        settingsInPlaceOfAny();
        settingsAreHeld();
        smoothed();
        smoothedInFog();
        changed();
        madeFrom();
        courts();
        surveys();
        heldCapes();
        missesAndBest();
        seeds();
        shares();
        due.end();
    }

    private static void clocksAreSet() {
        CoastThree x = new CoastThree();
        x.mark(3, 120, 500, 0);
        int[][] bad = {{-1, 0, 0}, {3, 0, 0}, {0, -1, 0}, {0, 100, 0}, {0, 0, -201}, {0, 0, 201}, {MIN, MAX, MIN}};
        for (int[] b : bad) {
            due.is("23: BAD", x.set(b[0], b[1], b[2]), BAD);
        }
        due.is("23: set", x.set(1, 20, 200), 1);
        due.is("23: it leans", x.told(0, 6), 700);
        due.is("23: told anew", x.set(1, 0, -200), 1);
        due.is("23: it is so", x.told(0, 6), 300);
        due.is("23: later than the mark", x.set(1, 99, 7), 1);
        due.is("23: at most once", x.told(0, 6), 500);
        due.is("23: another voyage", x.set(2, 0, 9), 1);
        due.is("23: leans not this one", x.told(0, 6), 500);
    }

    private static void clock(CoastThree x, int voyage, int day, int... want) {
        for (int what = 0; what < 3; what++) {
            due.is("24: clock(" + voyage + ", " + day + ", " + what + ")", x.clock(voyage, day, what), want[what]);
        }
    }

    /** A FIX of day 50 (span 10) at 200, and one ashore (span 2) at 210 in the same cape. */
    private static CoastThree fixAndShore() {
        CoastThree x = new CoastThree();
        x.mark(3, 50, 200, 0);
        x.mark(7, 110, 210, 0);
        x.put(0, 1);
        x.put(1, 1);
        return x;
    }

    private static void settings() {
        CoastThree x = fixAndShore();
        clock(x, 0, 0, 25, -2, 22);
        clock(x, 0, 50, 25, -2, 22);
        clock(x, 0, 51, 101, -50, 50);
        clock(x, 1, 0, 101, -50, 50);
        x.put(1, -1);
        clock(x, 0, 0, 101, -50, 50);
        x.mark(7, 0, 270, 0);
        x.put(2, 1);
        clock(x, 0, 0, 0, NONE, NONE);
        x.put(2, 2);
        x.put(1, 2);
        clock(x, 0, 0, 101, -50, 50);
        x.put(0, -1);
        clock(x, 0, 0, 101, -50, 50);
        int[][] bad = {{-1, 0, 0}, {3, 0, 0}, {0, -1, 0}, {0, 100, 0}, {0, 0, -1}, {0, 0, 3}};
        for (int[] b : bad) {
            due.is("24: BAD", x.clock(b[0], b[1], b[2]), BAD);
        }
    }

    /** Each cape counts, and none that is asked for no more. */
    private static void settingsOfEachCape() {
        CoastThree x = fixAndShore();
        for (int c = 0; c < 9; c++) {
            x.put(0, c);
            x.put(1, c);
            clock(x, 0, 0, 25, -2, 22);
        }
        x.mark(7, 200, 900, 0);
        x.put(2, 8);
        clock(x, 0, 0, 0, NONE, NONE);
        x.put(0, 7);
        clock(x, 0, 0, 101, -50, 50);
    }

    private static void settingsOfSeveralCapes() {
        CoastThree x = fixAndShore();
        x.mark(3, 10, 600, 0);
        x.mark(7, 110, 590, 0);
        x.put(2, 5);
        x.put(3, 5);
        clock(x, 0, 0, 1, -2, -2);
        clock(x, 0, 11, 0, NONE, NONE);
        x.mark(3, 30, 10, 0);
        x.mark(3, 40, 10, 0);
        x.put(4, 8);
        x.put(5, 8);
        clock(x, 0, 0, 1, -2, -2);
        x.put(3, -1);
        clock(x, 0, 35, 20, -2, 17);
        clock(x, 0, 11, 25, -2, 22);
    }

    private static void settingsInPlaceOfAny() {
        CoastThree x = fixAndShore();
        x.set(0, 20, 100);
        due.is("24: it does not hold as it is", x.cape(1, 5), 0);
        clock(x, 0, 30, 25, -2, 22);
        clock(x, 0, 60, 101, -50, 50);
        due.is("24: nothing is set by asking", x.told(0, 12), 100);
        x.mark(3, 220, 205, 0);
        x.put(2, 1);
        x.set(2, 0, 100);
        clock(x, 0, 30, 0, NONE, NONE);
        x.set(2, 0, 0);
        clock(x, 0, 30, 25, -2, 22);
    }

    private static void settingsAreHeld() {
        CoastThree x = fixAndShore();
        Tape.law(x, "watch 0 0-d");
        clock(x, 0, 0, 3, 48, 50);
        clock(x, 0, 51, 0, NONE, NONE);
        Tape.law(x, "watch 0 220");
        x.put(1, -1);
        x.mark(7, 100, 412, 0);
        x.put(2, 1);
        clock(x, 0, 0, 71, -20, 50);
        Tape.law(x, "watch 0 9999*9999*21+9999*4790+8416");
        clock(x, 0, 0, 101, -50, 50);
    }

    private static void fill(CoastThree x, int sheet, int sort, int... row) {
        Rows.fill(due, x, sheet, sort, row);
    }

    private static void row(String where, CoastThree x, int sheet, int... want) {
        Rows.are(due, where, x, sheet, want);
    }

    private static void smoothed() {
        CoastThree x = new CoastThree();
        due.is("25: missing", x.smooth(0), NOTHING);
        due.is("25: below", x.smooth(-1), BAD);
        due.is("25: above", x.smooth(4), BAD);
        fill(x, 0, 0, 9, 0, 0, 30, 3, 3, 3);
        due.is("25: how many", x.smooth(0), 4);
        row("25: as they were", x, 0, 9, 3, 10, 11, 12, 3, 3);
        fill(x, 0, 0, MAX, MAX, MAX, MIN, MIN, MIN, -1, -1, 0);
        due.is("25: whole numbers", x.smooth(0), 5);
        row("25: whole numbers", x, 0, MAX, MAX, 715827882, -715827883, MIN, -1431655765, -715827883, 0, 0);
        fill(x, 1, 1, -5, -1, 1, 0);
        due.is("25: cut", x.smooth(1), 1);
        row("25: cut", x, 1, -5, -1, 0, 0);
        for (int n = 0; n < 3; n++) {
            x.sheet(2, 0, n);
            if (n > 0) {
                x.write(2, n - 1, 90);
            }
            due.is("25: ends alone", x.smooth(2), 0);
        }
        fill(x, 2, 0, 1, 2, 30);
        due.is("25: three", x.smooth(2), 1);
        row("25: three", x, 2, 1, 11, 30);
    }

    private static void smoothedInFog() {
        CoastThree x = new CoastThree();
        fill(x, 0, 1, 9, 0, NONE, 30, 3, 3, 60, NONE);
        due.is("25: in fog", x.smooth(0), 2);
        row("25: in fog", x, 0, 9, 0, KIND, 30, 12, 22, 60, KIND);
        fill(x, 0, 0, 0, NONE, 3);
        due.is("25: no fog on ints", x.smooth(0), 1);
        row("25: no fog on ints", x, 0, 0, -333333334, 3);
        fill(x, 0, 1, NONE, 5, 90, 90);
        due.is("25: fog at an end", x.smooth(0), 1);
        row("25: fog at an end", x, 0, KIND, 5, 61, 90);
    }

    private static void changed() {
        CoastThree x = new CoastThree();
        fill(x, 0, 0, 1, 2, 3, 4, 5);
        int[][] rows = {{1, 2, 3, 4, 5}, {2, 3, 4, 5}, {1, 2, 3, 4, 5, 6}, {5, 4, 3, 2, 1}, {}, {9, 9, 9, 9, 9},
            {0, 1, 2, 3, 4}, {1, 3, 4, 7, 5, 5}, {2, 1, 4, 3, 5}};
        int[] want = {0, 1, 1, 4, 5, 5, 2, 3, 3};
        for (int i = 0; i < rows.length; i++) {
            fill(x, 1, 0, rows[i]);
            due.is("26: row " + i, x.changes(0, 1), want[i]);
            due.is("26: row " + i + " the other way", x.changes(1, 0), want[i]);
            due.is("26: itself", x.changes(1, 1), 0);
        }
        fill(x, 2, 1, 1, NONE, 3);
        due.is("26: two sorts", x.changes(0, 2), KIND);
        due.is("26: one missing", x.changes(3, 2), NOTHING);
        due.is("26: the other missing", x.changes(2, 3), NOTHING);
        due.is("26: itself missing", x.changes(3, 3), NOTHING);
        fill(x, 3, 1, 1, NONE, 4);
        due.is("26: fog like fog", x.changes(2, 3), 1);
        fill(x, 3, 1, 1, 0, 3);
        due.is("26: fog like fog alone", x.changes(2, 3), 1);
        x.sheet(2, 0, 24);
        x.sheet(3, 0, 24);
        for (int i = 0; i < 24; i++) {
            x.write(2, i, i);
            x.write(3, i, i + 100);
        }
        due.is("26: the most", x.changes(2, 3), 24);
        int[][] bad = {{-1, 0}, {4, 0}, {0, -1}, {0, 4}};
        for (int[] b : bad) {
            due.is("26: BAD", x.changes(b[0], b[1]), BAD);
        }
    }

    private static void madeFrom() {
        CoastThree x = new CoastThree();
        due.is("27: missing", x.from(3), NOTHING);
        due.is("27: below", x.from(-1), BAD);
        due.is("27: above", x.from(4), BAD);
        fill(x, 1, 0, 1, 2, 3);
        due.is("27: no other", x.from(1), NONE);
        fill(x, 0, 1, 1, 2, 3);
        due.is("27: none of its sort", x.from(1), NONE);
        fill(x, 3, 0, 1, 2);
        due.is("27: one", x.from(1), 3);
        fill(x, 2, 0, 1, 2, 4);
        due.is("27: of several the least", x.from(1), 2);
        fill(x, 2, 0, 1, 9, 4);
        due.is("27: the fewest", x.from(1), 3);
        due.is("27: of another", x.from(2), 1);
        fill(x, 0, 0, 1, 2, 3);
        due.is("27: the first sheet", x.from(1), 0);
        due.is("27: no changes at all", x.from(0), 1);
        x.sheet(0, 0, 0);
        due.is("27: an empty one is there", x.from(0), 3);
        x.sheet(3, -1, 0);
        due.is("27: a missing one is not", x.from(0), 1);
    }

    private static void courts() {
        CoastThree x = new CoastThree();
        x.mark(0, 0, 500, 0);
        x.put(0, 8);
        int[][] rows = {{0, 480, 520, 2}, {0, 481, 520, 1}, {0, 480, 519, 1}, {0, 0, 479, 0}, {0, 0, 480, 1},
            {0, 521, 1999, 0}, {0, 520, 1999, 1}, {0, 500, 500, 1}, {99, 579, 619, 2}, {-99, 381, 421, 2},
            {99, 0, 578, 0}, {-99, 422, 1999, 0}, {0, 0, 1999, 2}, {5, 485, 525, 2}, {5, 480, 520, 1}};
        for (int[] r : rows) {
            due.is("28: court(8, " + r[0] + ", " + r[1] + ", " + r[2] + ")", x.court(8, r[0], r[1], r[2]), r[3]);
        }
        int[][] bad = {{-1, 0, 0, 0}, {9, 0, 0, 0}, {8, -100, 0, 0}, {8, 100, 0, 0}, {8, 0, -1, 0}, {8, 0, 2000, 2000},
            {8, 0, 5, 4}, {8, 0, 0, 2000}, {0, 0, 1, 0}, {8, MIN, MIN, MAX}};
        for (int[] b : bad) {
            due.is("28: BAD", x.court(b[0], b[1], b[2], b[3]), BAD);
        }
        due.is("28: not seen", x.court(0, 0, 0, 1999), NO);
        x.mark(7, 0, 530, 0);
        x.put(1, 8);
        due.is("28: it does not hold", x.court(8, 0, 0, 1999), NO);
    }

    private static void surveys() {
        CoastThree x = new CoastThree();
        due.is("29: first", x.survey(0, 999), NONE);
        due.is("29: again", x.survey(0, 0), 999);
        due.is("29: once more", x.survey(0, 5), 0);
        due.is("29: another", x.survey(8, 1), NONE);
        due.is("29: counted", x.count(5), 2);
        int[][] bad = {{-1, 0}, {9, 0}, {0, -1}, {0, 1000}, {1, NONE}};
        for (int[] b : bad) {
            due.is("29: BAD", x.survey(b[0], b[1]), BAD);
        }
        due.is("29: nothing changed", x.count(5), 2);
    }

    private static void heldCapes() {
        CoastThree x = new CoastThree();
        for (int c = 0; c < 9; c++) {
            x.mark(7, 0, 100, 0);
            x.put(c, c);
        }
        due.is("30: none surveyed", x.held(), 0);
        int[] place = {97, 98, 99, 100, 101, 102, 103, 0, 100};
        for (int c = 0; c < 9; c++) {
            x.survey(c, place[c]);
        }
        due.is("30: between the ends", x.held(), 2 + 4 + 8 + 16 + 32 + 256);
        x.mark(7, 0, 200, 0);
        x.put(9, 3);
        due.is("30: what does not hold", x.held(), 2 + 4 + 16 + 32 + 256);
        x.put(8, -1);
        due.is("30: what is not seen", x.held(), 2 + 4 + 16 + 32);
        x.survey(0, 100);
        due.is("30: the first cape", x.held(), 1 + 2 + 4 + 16 + 32);
    }

    private static void missesAndBest() {
        CoastThree x = new CoastThree();
        x.mark(0, 0, 100, 0);
        x.mark(0, 1, 110, 0);
        x.mark(0, 100, 103, 0);
        x.mark(4, 200, 300, 95);
        x.mark(0, 200, 700, 0);
        x.put(0, 2);
        x.put(1, 2);
        x.put(2, 2);
        x.put(3, 3);
        due.is("32: none surveyed", x.best(), NONE);
        due.is("31: none surveyed", x.misses(0, 1), 0);
        x.survey(2, 108);
        due.is("31: both sides together", x.misses(0, 0), 10);
        due.is("31: how many", x.misses(0, 1), 2);
        due.is("31: of 1", x.misses(1, 0), 5);
        due.is("31: of 2, not surveyed", x.misses(2, 0), 0);
        due.is("32: of several the least", x.best(), 0);
        x.survey(2, 107);
        due.is("32: the least of each", x.best(), 1);
        x.survey(3, 309);
        due.is("31: what it says counts", x.misses(2, 0), 0);
        due.is("32: none missed", x.best(), 2);
        x.survey(3, 305);
        due.is("32: 4 of 1, 4 of 2", x.best(), 1);
        x.put(2, -1);
        due.is("32: 5 of 0, 4 of 2", x.best(), 2);
        x.survey(2, 106);
        due.is("32: 5 of 0 stay, 4 of 2", x.misses(0, 0), 10);
        x.survey(2, 109);
        x.put(1, -1);
        x.mark(0, 5, 109, 0);
        x.put(5, 2);
        due.is("31: 9 of two marks", x.misses(0, 0), 9);
        due.is("32: cut", x.best(), 0);
        int[][] bad = {{-1, 0}, {3, 0}, {0, -1}, {0, 2}};
        for (int[] b : bad) {
            due.is("31: BAD", x.misses(b[0], b[1]), BAD);
        }
    }

    private static void seeds() {
        CoastThree x = new CoastThree();
        due.is("33: at first", x.seed(MIN), 1);
        due.is("33: what it was", x.seed(77), MIN);
        due.is("33: counted", x.count(8), 77);
        due.is("33: any int", x.seed(CoastThree.BAD), 77);
        due.is("33: any int told", x.seed(0), CoastThree.BAD);
    }

    /** The same draws in longs, so that the wrap is told otherwise than in the class. */
    private static int drawn(int z) {
        return (int) ((z * 1103515245L + 12345L) & 0xffffffffL);
    }

    private static void shares() {
        CoastThree x = new CoastThree();
        due.is("34: nothing surveyed", x.share(100, 200, 0), 100);
        due.is("34: nothing drawn", x.count(8), 1);
        int[] place = {0, 500, 999};
        x.survey(8, place[2]);
        x.survey(0, place[0]);
        x.survey(4, place[1]);
        int[][] rows = {{1, 0, 0}, {100, 10, 7}, {50, 200, 150}, {100, 1, 0}, {7, 200, 200}, {100, 3, 2}};
        int z = 99;
        x.seed(z);
        for (int[] r : rows) {
            int near = 0;
            for (int i = 0; i < r[0]; i++) {
                boolean all = true;
                for (int c = 0; c < 3; c++) {
                    z = drawn(z);
                    int seen = place[c] - r[1] + (z >>> 8) % (2 * r[1] + 1);
                    all = all && Math.abs(seen - place[c]) <= r[2];
                }
                near += all ? 1 : 0;
            }
            due.is("34: share(" + r[0] + ", " + r[1] + ", " + r[2] + ")", x.share(r[0], r[1], r[2]), near);
            due.is("34: z goes on", x.count(8), z);
        }
        int[][] bad = {{0, 0, 0}, {101, 0, 0}, {1, -1, 0}, {1, 201, 0}, {1, 0, -1}, {1, 0, 201}, {MAX, MAX, MAX}};
        for (int[] b : bad) {
            due.is("34: BAD", x.share(b[0], b[1], b[2]), BAD);
        }
        due.is("34: z stays", x.count(8), z);
    }
}
