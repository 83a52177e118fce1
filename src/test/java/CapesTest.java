/** Promises 12 to 22: capes, matches, passages, names. */
public final class CapesTest {
    private static final int BAD = CoastThree.BAD, NO = CoastThree.NO, FULL = CoastThree.FULL, NONE = CoastThree.NONE;
    private static final Due due = new Due();

    public static void main(String[] args) {
        endsOfACape();
        capesThatDoNotHold();
        endsBelowZero();
        capesAsBits();
        theNext();
        marksAreChosen();
        theMatchHasMostPairs();
        theMatchHasTheLeastSum();
        theFirstOfSeveral();
        pairsAtTheEdge();
        matchesAreRefused();
        pairsAreJoined();
        passagesAreTold();
        whatIsBetween();
        eachTwoByThemselves();
        namesThatAreOnePlace();
        theKeptName();
        due.end();
    }

    private static void cape(CoastThree x, int cape, int... want) {
        for (int what = 0; what < 8; what++) {
            due.is("12: cape(" + cape + ", " + what + ")", x.cape(cape, what), want[what]);
        }
    }

    private static void endsOfACape() {
        CoastThree x = new CoastThree();
        x.mark(0, 0, 100, 0);
        x.mark(7, 205, 118, 50);
        x.mark(3, 20, 112, 0);
        cape(x, 8, 0, NONE, NONE, NONE, NONE, 0, 0, 0);
        x.put(0, 8);
        cape(x, 8, 1, 80, 120, 40, 100, 1, 1, 1);
        x.put(1, 8);
        cape(x, 8, 2, 116, 120, 4, 118, 1, 9, 0);
        x.put(2, 8);
        cape(x, 8, 3, 116, 119, 3, 117, 1, 14, 0);
        x.put(1, -1);
        cape(x, 8, 2, 105, 119, 14, 112, 1, 6, 1);
        int[][] bad = {{-1, 0}, {9, 0}, {8, -1}, {8, 8}, {0, 8}, {Integer.MAX_VALUE, 1}, {1, Integer.MIN_VALUE}};
        for (int[] b : bad) {
            due.is("12: BAD", x.cape(b[0], b[1]), BAD);
        }
    }

    private static void capesThatDoNotHold() {
        CoastThree x = new CoastThree();
        x.mark(7, 0, 100, 0);
        x.mark(7, 100, 105, 0);
        x.mark(7, 0, 104, 0);
        x.put(0, 0);
        x.put(1, 0);
        cape(x, 0, 2, 103, 102, -1, 102, 0, 16, 0);
        x.put(1, -1);
        x.put(2, 0);
        cape(x, 0, 2, 102, 102, 0, 102, 1, 16, 1);
    }

    private static void endsBelowZero() {
        CoastThree x = new CoastThree();
        x.mark(4, 0, 0, -99);
        x.put(0, 1);
        cape(x, 1, 1, -34, 16, 50, -9, 1, 2, 1);
        x.mark(0, 0, 3, 0);
        x.put(1, 2);
        cape(x, 2, 1, -17, 23, 40, 3, 1, 1, 1);
        x.mark(7, 0, 1, 0);
        x.mark(2, 0, 4, 0);
        x.put(2, 2);
        Tape.law(x, "needle 0 0-20");
        x.put(3, 2);
        cape(x, 2, 3, -1, -1, 0, -1, 1, 10, 1);
    }

    private static void capesAsBits() {
        CoastThree x = new CoastThree();
        int[] at = {100, 200, 105, 500, 504, 510};
        for (int i = 0; i < 6; i++) {
            x.mark(7, i % 2 * 100, at[i], 0);
        }
        x.put(0, 0);
        x.put(1, 8);
        x.put(2, 0);
        x.put(3, 4);
        x.put(4, 4);
        due.is("13: seen", x.capes(0), 1 + 16 + 256);
        due.is("13: hold", x.capes(1), 16 + 256);
        due.is("13: stand on one", x.capes(2), 1 + 256);
        due.is("13: below", x.capes(-1), BAD);
        due.is("13: above", x.capes(3), BAD);
    }

    private static void theNext() {
        CoastThree x = new CoastThree();
        due.is("14: none seen", x.next(), NONE);
        x.mark(7, 0, 100, 0);
        x.mark(7, 0, 200, 0);
        x.put(0, 6);
        x.put(1, 6);
        due.is("14: none holds", x.next(), NONE);
        x.put(1, 7);
        due.is("14: of several the least", x.next(), 6);
        x.mark(0, 0, 300, 0);
        x.put(2, 8);
        due.is("14: the widest", x.next(), 8);
        x.mark(0, 0, 400, 0);
        x.put(3, 2);
        due.is("14: the least of two widest", x.next(), 2);
        x.mark(7, 0, 304, 0);
        x.put(4, 7);
        x.put(1, 7);
        x.put(2, -1);
        x.put(3, -1);
        x.put(0, -1);
        due.is("14: wide apart is not wide", x.next(), NONE);
        x.put(4, 5);
        x.put(1, 5);
        x.mark(7, 0, 202, 0);
        x.mark(7, 0, 206, 0);
        x.put(5, 3);
        x.put(6, 3);
        due.is("14: a width of 0", x.next(), 3);
        CoastThree y = new CoastThree();
        y.mark(0, 0, 0, 0);
        y.put(0, 0);
        due.is("14: the first cape", y.next(), 0);
        y.put(0, 8);
        due.is("14: the last cape", y.next(), 8);
    }

    /** Each two capes by themselves: none has the passages of another two. */
    private static void eachTwoByThemselves() {
        for (int one = 0; one < 9; one++) {
            for (int other = 0; other < one; other++) {
                for (int how = 0; how < 4; how++) {
                    twoAlone(one, other, how);
                }
            }
        }
    }

    private static void twoAlone(int one, int other, int how) {
        int[] want = {2, 1, 5, 4};
        CoastThree x = new CoastThree();
        x.passage(one, other, how);
        for (int a = 0; a < 9; a++) {
            for (int b = 0; b < a; b++) {
                due.is("20: between(" + a + ", " + b + ")", x.between(a, b), a == one && b == other ? want[how] : 0);
            }
        }
    }

    private static void marksAreChosen() {
        CoastThree x = new CoastThree();
        for (int i = 0; i < 14; i++) {
            x.mark(0, i % 2 * 200, 10 * i, 0);
        }
        for (int i = 0; i < 10; i++) {
            due.is("15: how many of the voyage", x.choose(i), i / 2 + 1);
        }
        due.is("15: five are", x.choose(10), FULL);
        due.is("15: NO ahead of FULL", x.choose(0), NO);
        due.is("15: below", x.choose(-1), BAD);
        due.is("15: above", x.choose(14), BAD);
        due.is("15: counted", x.count(4), 10);
        due.is("16: how many were", x.clear(), 10);
        due.is("16: none are", x.clear(), 0);
        due.is("16: none counted", x.count(4), 0);
        due.is("16: chosen anew", x.choose(12), 1);
        due.is("16: of the other", x.choose(1), 1);
        due.is("15: it is, of voyage 2", x.choose(1), NO);
        due.is("15: it is, of voyage 0", x.choose(12), NO);
    }

    /** Marks of KIND 0 (both spans together 40), told in order: those of voyage 0, then of voyage 1. */
    private static CoastThree told(int[] ones, int[] others) {
        CoastThree x = new CoastThree();
        for (int i = 0; i < ones.length + others.length; i++) {
            x.mark(0, i < ones.length ? 0 : 100, i < ones.length ? ones[i] : others[i - ones.length], 0);
            x.choose(i);
        }
        return x;
    }

    private static void match(CoastThree x, int one, int other, int... want) {
        for (int i = 0; i < want.length; i++) {
            due.is("17: match(" + one + ", " + other + ", " + (i - 2) + ")", x.match(one, other, i - 2), want[i]);
        }
        due.is("17: of told ones alone", x.match(one, other, want.length - 2), BAD);
    }

    private static void theMatchHasMostPairs() {
        CoastThree x = told(new int[] {100, 130}, new int[] {131, 170});
        match(x, 0, 1, 2, 71, 2, 3);
        match(x, 1, 0, 2, 71, 0, 1);
        x = told(new int[] {100, 140, 180, 220, 260}, new int[] {140, 180, 220, 260, 300});
        match(x, 0, 1, 5, 200, 5, 6, 7, 8, 9);
        x = told(new int[] {100, 140, 180, 220, 260}, new int[] {140, 180, 220, 260, 301});
        match(x, 0, 1, 4, 0, NONE, 5, 6, 7, 8);
        x = told(new int[] {}, new int[] {1, 2});
        match(x, 0, 1, 0, 0);
        match(x, 1, 0, 0, 0, NONE, NONE);
        x = told(new int[] {500}, new int[] {1, 2});
        match(x, 0, 1, 0, 0, NONE);
    }

    private static void theMatchHasTheLeastSum() {
        CoastThree x = told(new int[] {100, 110}, new int[] {111, 99});
        match(x, 0, 1, 2, 2, 3, 2);
        x = told(new int[] {100}, new int[] {120, 119, 118, 117, 116});
        match(x, 0, 1, 1, 16, 5);
        match(x, 1, 0, 1, 16, NONE, NONE, NONE, NONE, 0);
    }

    private static void theFirstOfSeveral() {
        CoastThree x = told(new int[] {100}, new int[] {90, 110, 90});
        match(x, 0, 1, 1, 10, 1);
        match(x, 1, 0, 1, 10, 0, NONE, NONE);
        x = told(new int[] {100, 110}, new int[] {130, 120});
        match(x, 0, 1, 2, 40, 2, 3);
        match(x, 1, 0, 2, 40, 0, 1);
        x = told(new int[] {100, 100, 100}, new int[] {100, 100});
        match(x, 0, 1, 2, 0, 3, 4, NONE);
        match(x, 1, 0, 2, 0, 0, 1);
        x = told(new int[] {7, 7, 7, 7, 7}, new int[] {7, 7, 7, 7, 7});
        match(x, 0, 1, 5, 0, 5, 6, 7, 8, 9);
        CoastThree y = new CoastThree();
        for (int i = 0; i < 4; i++) {
            y.mark(0, i < 2 ? 0 : 100, 50, 0);
        }
        y.choose(1);
        y.choose(3);
        y.choose(0);
        y.choose(2);
        match(y, 0, 1, 2, 0, 3, 2);
    }

    private static void pairsAtTheEdge() {
        match(told(new int[] {100}, new int[] {140}), 0, 1, 1, 40, 1);
        match(told(new int[] {100}, new int[] {141}), 0, 1, 0, 0, NONE);
        match(told(new int[] {141}, new int[] {100}), 0, 1, 0, 0, NONE);
        CoastThree x = new CoastThree();
        x.mark(7, 0, 100, 0);
        x.mark(2, 200, 137, 0);
        x.choose(0);
        x.choose(1);
        match(x, 0, 2, 0, 0, NONE);
        Tape.law(x, "needle 2 0-20");
        match(x, 0, 2, 1, 17, 1);
        match(x, 2, 0, 1, 17, 0);
    }

    private static void matchesAreRefused() {
        CoastThree x = told(new int[] {1, 2, 3}, new int[] {4});
        int[][] bad = {{0, 0, -2}, {-1, 0, -2}, {3, 0, -2}, {0, -1, -2}, {0, 3, -2}, {0, 1, -3}, {0, 1, 3}, {1, 0, 1},
            {2, 0, 0}, {2, 2, -1}, {Integer.MIN_VALUE, 0, 0}, {0, 1, Integer.MIN_VALUE}, {0, 1, Integer.MAX_VALUE}};
        for (int[] b : bad) {
            due.is("17: BAD", x.match(b[0], b[1], b[2]), BAD);
        }
        for (int one = -1; one < 4; one++) {
            due.is("18: itself", x.join(one, one), BAD);
            due.is("18: below", x.join(one, -1), BAD);
            due.is("18: above", x.join(3, one), BAD);
        }
    }

    private static void pairsAreJoined() {
        CoastThree x = told(new int[] {100, 200, 300, 400}, new int[] {101, 201, 301, 900});
        x.put(0, 4);
        x.put(2, 6);
        x.put(4, 4);
        x.put(5, 5);
        x.put(6, 5);
        x.put(7, 5);
        due.is("18: put otherwise", x.join(0, 1), 1);
        int[] capes = {4, NONE, 6, NONE, 4, 5, 6, 5};
        for (int i = 0; i < 8; i++) {
            due.is("18: mark " + i, x.told(i, 5), capes[i]);
        }
        due.is("18: again", x.join(0, 1), 0);
        due.is("18: the other way", x.join(1, 0), 1);
        due.is("18: mark 1 by its pair", x.told(1, 5), 5);
        due.is("18: no pair, no cape", x.told(3, 5), NONE);
        due.is("18: no marks", x.join(0, 2), 0);
        x = told(new int[] {100}, new int[] {101});
        x.put(0, 0);
        due.is("18: the first pair, the first cape", x.join(0, 1), 1);
        due.is("18: put so", x.told(1, 5), 0);
    }

    private static void passagesAreTold() {
        CoastThree x = new CoastThree();
        int[][] bad = {{0, 0, 0}, {-1, 0, 0}, {0, -1, 0}, {9, 0, 0}, {0, 9, 0}, {0, 1, -1}, {0, 1, 4}};
        for (int[] b : bad) {
            due.is("19: BAD", x.passage(b[0], b[1], b[2]), BAD);
        }
        for (int i = 1; i <= 20; i++) {
            due.is("19: how many", x.passage(i % 9, (i + 1) % 9, i % 4), i);
        }
        due.is("19: the 21st", x.passage(0, 1, 0), FULL);
        due.is("19: BAD ahead of FULL", x.passage(0, 1, 4), BAD);
        due.is("19: counted", x.count(3), 20);
        due.is("20: of the last one", x.between(2, 3), 2);
        due.is("20: of none of twenty", x.between(0, 4), 0);
    }

    private static void whatIsBetween() {
        int[][] told = {{}, {0}, {1}, {0, 1}, {2}, {3}, {2, 3}, {2, 3, 3}, {3, 2, 2}, {3, 3, 3, 0}, {2, 2, 1}, {0, 0, 1, 3}};
        int[] want = {0, 2, 1, 3, 5, 4, 0, 4, 5, 2, 1, 3};
        for (int i = 0; i < told.length; i++) {
            CoastThree x = new CoastThree();
            for (int k = 0; k < told[i].length; k++) {
                x.passage(k % 2 == 0 ? 2 : 8, k % 2 == 0 ? 8 : 2, told[i][k]);
            }
            x.passage(2, 7, 0);
            x.passage(1, 8, 1);
            due.is("20: row " + i, x.between(2, 8), want[i]);
            due.is("20: row " + i + " the other way", x.between(8, 2), want[i]);
            due.is("20: other capes", x.between(1, 2), 0);
        }
        CoastThree x = new CoastThree();
        for (int c = -1; c < 10; c++) {
            due.is("20: itself", x.between(c, c), BAD);
            due.is("20: below", x.between(-1, c), BAD);
            due.is("20: above", x.between(c, 9), BAD);
        }
    }

    private static void namesThatAreOnePlace() {
        CoastThree x = new CoastThree();
        for (int i = 0; i < 5; i++) {
            x.mark(6, 10 * i, 0, 0);
        }
        x.name(0, 0);
        x.name(1, 9);
        x.name(2, 5);
        x.name(3, 9);
        due.is("21: put to none", x.same(0, 9), 0);
        x.put(0, 3);
        x.put(1, 4);
        x.put(2, 4);
        x.put(4, 3);
        due.is("21: two capes", x.same(0, 9), 0);
        due.is("21: one cape", x.same(9, 5), 1);
        due.is("21: the other way", x.same(5, 9), 1);
        x.put(3, 3);
        due.is("21: by another mark", x.same(0, 9), 1);
        due.is("21: not by a third name", x.same(0, 5), 0);
        due.is("21: no such mark", x.same(1, 2), 0);
        int[][] bad = {{0, 0}, {9, 9}, {-1, 0}, {0, -1}, {10, 0}, {0, 10}};
        for (int[] b : bad) {
            due.is("21: BAD", x.same(b[0], b[1]), BAD);
        }
    }

    private static void theKeptName() {
        CoastThree x = new CoastThree();
        x.mark(6, 50, 0, 0);
        x.mark(6, 140, 0, 0);
        x.mark(6, 240, 0, 0);
        x.mark(0, 1, 0, 0);
        x.mark(6, 2, 0, 0);
        for (int i = 0; i < 5; i++) {
            x.put(i, 0);
        }
        due.is("22: no name", x.kept(0), NONE);
        x.name(0, 7);
        due.is("22: one name", x.kept(0), 7);
        x.name(2, 8);
        due.is("22: the least day, whatever the voyage", x.kept(0), 8);
        x.name(1, 0);
        due.is("22: of several the least number", x.kept(0), 0);
        x.put(1, 8);
        due.is("22: of its marks", x.kept(0), 8);
        due.is("22: of another cape", x.kept(8), 0);
        due.is("22: of none", x.kept(1), NONE);
        due.is("22: below", x.kept(-1), BAD);
        due.is("22: above", x.kept(9), BAD);
        x.mark(6, 99, 0, 0);
        x.name(5, 3);
        x.put(5, 5);
        due.is("22: the last day", x.kept(5), 3);
    }
}
