/** Promises 35 to 42: sheets and slots. */
public final class SheetsTest {
    private static final int BAD = CoastThree.BAD, NO = CoastThree.NO, FULL = CoastThree.FULL, NONE = CoastThree.NONE;
    private static final int NOTHING = CoastThree.NOTHING, KIND = CoastThree.KIND, INDEX = CoastThree.INDEX;
    private static final int SIZE = CoastThree.SIZE;
    private static final int MIN = Integer.MIN_VALUE, MAX = Integer.MAX_VALUE;
    private static final Due due = new Due();

    public static void main(String[] args) {
        sheetsAreMade();
        sheetsAreWritten();
        logsComeAsMarks();
        logsAreRefused();
        placesAreCopied();
        copiesAreRefused();
        slotsHold();
        slotsKeepWhatWasLaid();
        asked();
        items();
        rests();
        due.end();
    }

    private static void fill(CoastThree x, int sheet, int sort, int... row) {
        Rows.fill(due, x, sheet, sort, row);
    }

    private static void row(String where, CoastThree x, int sheet, int... want) {
        Rows.are(due, where, x, sheet, want);
    }

    private static void sheetsAreMade() {
        CoastThree x = new CoastThree();
        due.is("35: none", x.sheet(0, 0, 0), 0);
        row("35: empty", x, 0);
        due.is("35: the most", x.sheet(3, 1, 24), 24);
        for (int i = 0; i < 24; i++) {
            x.write(3, i, 7);
        }
        due.is("35: made anew", x.sheet(3, 0, 3), 3);
        row("35: all 0", x, 3, 0, 0, 0);
        int[][] bad = {{-1, 0, 1}, {4, 0, 1}, {3, -2, 1}, {3, 2, 1}, {3, 0, 25}, {3, 1, MAX}, {4, 0, -1}, {3, 2, -1},
            {4, -1, 0}};
        for (int[] b : bad) {
            due.is("35: BAD", x.sheet(b[0], b[1], b[2]), BAD);
        }
        due.is("35: SIZE", x.sheet(3, 0, -1), SIZE);
        due.is("35: SIZE", x.sheet(3, 1, MIN), SIZE);
        row("35: nothing changed", x, 3, 0, 0, 0);
        due.is("35: missing, n any", x.sheet(3, -1, 99), 0);
        due.is("35: missing, n any", x.sheet(2, -1, MIN), 0);
        due.is("35: it is missing", x.write(3, 0, 0), NOTHING);
        due.is("35: a SHEET that is 0 places long is there", x.write(0, 0, 0), INDEX);
    }

    private static void sheetsAreWritten() {
        CoastThree x = new CoastThree();
        due.is("36: missing", x.write(0, 0, 0), NOTHING);
        due.is("36: NOTHING ahead of INDEX", x.write(0, 99, 0), NOTHING);
        due.is("36: below", x.write(-1, 0, 0), BAD);
        due.is("36: above", x.write(4, 0, 0), BAD);
        fill(x, 0, 0, MIN, MAX, NONE, -100000);
        row("36: ints", x, 0, MIN, MAX, NONE, -100000);
        fill(x, 1, 1, -99999, 99999, NONE, 0);
        row("36: floats", x, 1, -99999, 99999, KIND, 0);
        due.is("36: float below", x.write(1, 0, -100000), BAD);
        due.is("36: float above", x.write(1, 0, 100000), BAD);
        due.is("36: float MIN", x.write(1, 0, MIN), BAD);
        due.is("36: INDEX ahead of BAD", x.write(1, 4, 100000), INDEX);
        due.is("36: place below", x.write(0, -1, 0), INDEX);
        due.is("36: place above", x.write(0, 4, 0), INDEX);
        due.is("36: place far above", x.write(0, MAX, 0), INDEX);
        row("36: nothing changed", x, 1, -99999, 99999, KIND, 0);
        due.is("36: out of the fog", x.write(1, 2, 5), 1);
        row("36: out of the fog", x, 1, -99999, 99999, 5, 0);
    }

    private static void marks(String where, CoastThree x, int[][] want) {
        due.is(where + " how many", x.count(0), want.length);
        for (int i = 0; i < want.length; i++) {
            for (int what = 0; what < 5; what++) {
                due.is(where + " told(" + i + ", " + what + ")", x.told(i, what), want[i][what]);
            }
            due.is(where + " put to none", x.told(i, 5), NONE);
        }
    }

    private static void logsComeAsMarks() {
        CoastThree x = new CoastThree();
        fill(x, 0, 1, 0, NONE, 999, 1000, -1, 7);
        due.is("37: floats", x.log(0, 294), 3);
        marks("37: floats", x, new int[][] {{0, 2, 94, 0, 0}, {0, 2, 96, 999, 0}, {0, 2, 99, 7, 0}});
        x = new CoastThree();
        fill(x, 1, 0, NONE, MAX, 5);
        due.is("37: ints", x.log(1, 0), 1);
        marks("37: ints", x, new int[][] {{0, 0, 2, 5, 0}});
        x.sheet(1, 0, 0);
        due.is("37: empty", x.log(1, 299), 0);
        x.keep();
        x.put(0, 3);
        x.mark(6, 100, 9, 50);
        x.put(1, 4);
        x.name(1, 2);
        x.back();
        fill(x, 1, 0, 8);
        due.is("37: where an older mark was", x.log(1, 100), 1);
        marks("37: where an older mark was", x, new int[][] {{0, 0, 2, 5, 0}, {0, 1, 0, 8, 0}});
        due.is("37: no name", x.told(1, 9), NONE);
    }

    private static void logsAreRefused() {
        CoastThree x = new CoastThree();
        due.is("37: missing", x.log(0, 0), NOTHING);
        due.is("37: BAD ahead of NOTHING", x.log(0, 300), BAD);
        due.is("37: below", x.log(-1, 0), BAD);
        due.is("37: above", x.log(4, 0), BAD);
        due.is("37: when below", x.log(0, -1), BAD);
        fill(x, 0, 0, 1, 2, -3);
        due.is("37: the last day", x.log(0, 97), 2);
        due.is("37: behind the last day", x.log(0, 98), BAD);
        due.is("37: behind that of voyage 1", x.log(0, 198), BAD);
        for (int i = 0; i < 10; i++) {
            x.log(0, 0);
        }
        due.is("37: 22 are there", x.count(0), 22);
        fill(x, 1, 0, 1, -1, 2, 3);
        due.is("37: no room", x.log(1, 0), FULL);
        due.is("37: BAD ahead of FULL", x.log(1, 97), BAD);
        due.is("37: none came", x.count(0), 22);
        due.is("37: the last that have room", x.log(0, 0), 2);
        due.is("37: full", x.log(0, 0), FULL);
        fill(x, 1, 0, -1, 1000);
        due.is("37: none needs room", x.log(1, 0), 0);
    }

    private static void placesAreCopied() {
        CoastThree x = new CoastThree();
        fill(x, 0, 0, 1, 2, 3, 4, 5);
        fill(x, 1, 0, 9, 9, 9, 9, 9, 9);
        due.is("38: many", x.copy(0, 1, 1, 3, 2), 2);
        row("38: to another", x, 1, 9, 9, 9, 2, 3, 9);
        row("38: from stays", x, 0, 1, 2, 3, 4, 5);
        due.is("38: to itself, up", x.copy(0, 0, 0, 1, 4), 4);
        row("38: to itself, up", x, 0, 1, 1, 2, 3, 4);
        due.is("38: to itself, down", x.copy(0, 1, 0, 0, 4), 4);
        row("38: to itself, down", x, 0, 1, 2, 3, 4, 4);
        due.is("38: none", x.copy(0, 5, 1, 6, 0), 0);
        due.is("38: to its end", x.copy(0, 4, 1, 5, 1), 1);
        row("38: to its end", x, 1, 9, 9, 9, 2, 3, 4);
        fill(x, 2, 1, 5, NONE);
        fill(x, 3, 1, 0, 0, 0);
        due.is("38: floats", x.copy(2, 0, 3, 1, 2), 2);
        row("38: fog", x, 3, 0, 5, KIND);
    }

    private static void copiesAreRefused() {
        CoastThree x = new CoastThree();
        x.sheet(0, 0, 3);
        x.sheet(1, 1, 3);
        x.sheet(2, 0, 2);
        int[][] rows = {{-1, 0, 0, 0, 0, BAD}, {4, 0, 0, 0, 0, BAD}, {0, 0, -1, 0, 0, BAD}, {0, 0, 4, 0, 0, BAD},
            {3, 0, 4, 0, 0, BAD}, {3, 0, 0, 9, 0, NOTHING}, {0, 0, 3, 9, 0, NOTHING}, {3, 0, 1, 0, 0, NOTHING},
            {0, 9, 1, 0, 0, KIND}, {1, 0, 0, 0, 1, KIND}, {0, -1, 2, 0, 1, INDEX}, {0, 0, 2, -1, 1, INDEX},
            {0, 2, 2, 0, 2, INDEX}, {0, 0, 2, 1, 2, INDEX}, {0, 0, 2, 0, 3, INDEX}, {0, 3, 2, 0, 1, INDEX},
            {0, 4, 2, 0, 0, INDEX}, {0, 0, 2, 3, 0, INDEX}, {0, 0, 2, 0, -1, INDEX}, {0, 0, 2, 0, MIN, INDEX},
            {0, 0, 2, 0, MAX, INDEX}, {0, MAX, 2, 0, MAX, INDEX}, {0, 1, 2, MAX, 1, INDEX}, {0, MIN, 2, 0, 1, INDEX}};
        for (int[] r : rows) {
            due.is("38: copy(" + r[0] + ", " + r[1] + ", " + r[2] + ", " + r[3] + ", " + r[4] + ")",
                    x.copy(r[0], r[1], r[2], r[3], r[4]), r[5]);
        }
    }

    private static void slotsHold() {
        CoastThree x = new CoastThree();
        x.mark(7, 0, 0, 0);
        x.sheet(2, 0, 1);
        int[][] held = {{0, MAX}, {1, 0}, {2, 2}, {3, MIN}, {0, -1}, {3, 0}, {1, 0}, {0, 5}};
        int was = 0;
        for (int[] h : held) {
            due.is("39: what it held", x.lay(0, h[0], h[1]), was);
            was = h[0];
        }
        int[][] bad = {{-1, 0, 0}, {5, 0, 0}, {0, -1, 0}, {0, 4, 0}, {0, 1, -1}, {0, 1, 1}, {0, 2, -1}, {0, 2, 4}};
        for (int[] b : bad) {
            due.is("39: BAD", x.lay(b[0], b[1], b[2]), BAD);
        }
        due.is("39: missing", x.lay(0, 2, 0), NOTHING);
        due.is("39: nothing changed", x.lay(0, 3, 1), 0);
        due.is("39: refused, it stays", x.lay(0, 2, 0), NOTHING);
        due.is("39: still the number", x.rest(0, 5), 1);
        due.is("39: another slot", x.lay(4, 3, 0), 0);
    }

    private static void slotsKeepWhatWasLaid() {
        CoastThree x = new CoastThree();
        x.keep();
        x.mark(3, 0, 0, 0);
        x.lay(1, 1, 0);
        x.back();
        due.is("39: a mark for good", x.ask(1, 3), 5);
        x.mark(7, 0, 0, 0);
        due.is("39: though another has its number", x.ask(1, 0), 5);
        due.is("39: and is of another kind", x.ask(1, 7), KIND);
        fill(x, 0, 0, 1, 2);
        x.lay(2, 2, 0);
        x.lay(3, 2, 0);
        x.write(0, 0, 50);
        due.is("39: a sheet as it was then", x.item(2, 0), 1);
        x.sheet(0, -1, 0);
        due.is("39: though it is missing now", x.item(2, 1), 2);
        fill(x, 0, 0, 8, 9, 10);
        x.lay(3, 2, 0);
        due.is("39: each its own row", x.item(2, 0), 1);
        due.is("39: each its own size", x.item(2, 2), INDEX);
        due.is("39: laid anew", x.item(3, 2), 10);
    }

    private static void asked() {
        CoastThree x = new CoastThree();
        int[] worth = {1, 1, 1, 5, 2, 2, 3, 8};
        for (int k = 0; k < 8; k++) {
            x.mark(k, 0, 0, 0);
            x.lay(2, 1, k);
            for (int as = 0; as < 8; as++) {
                boolean under = as == k || as == 0 || as == 4 && (k == 5 || k == 7);
                due.is("40: " + k + " taken for " + as, x.ask(2, as), under ? worth[k] : KIND);
            }
        }
        due.is("40: nothing", x.ask(0, 0), NOTHING);
        x.sheet(0, 0, 1);
        x.lay(0, 2, 0);
        due.is("40: a sheet", x.ask(0, 0), KIND);
        x.lay(0, 3, 0);
        due.is("40: a number", x.ask(0, 0), KIND);
        int[][] bad = {{-1, 0}, {5, 0}, {1, -1}, {1, 8}};
        for (int[] b : bad) {
            due.is("40: BAD", x.ask(b[0], b[1]), BAD);
        }
    }

    private static void items() {
        CoastThree x = new CoastThree();
        due.is("41: nothing", x.item(0, 0), NOTHING);
        due.is("41: below", x.item(-1, 0), BAD);
        due.is("41: above", x.item(5, 0), BAD);
        x.mark(0, 0, 0, 0);
        x.lay(0, 1, 0);
        due.is("41: a mark", x.item(0, 99), KIND);
        x.lay(0, 3, 0);
        due.is("41: a number", x.item(0, 0), KIND);
        fill(x, 0, 1, NONE, -99999);
        x.lay(0, 2, 0);
        due.is("41: fog", x.item(0, 0), KIND);
        due.is("41: a float", x.item(0, 1), -99999);
        due.is("41: place below", x.item(0, -1), INDEX);
        due.is("41: place above", x.item(0, 2), INDEX);
        due.is("41: place far below", x.item(0, MIN), INDEX);
        x.lay(0, 0, 0);
        due.is("41: nothing again", x.item(0, 0), NOTHING);
    }

    private static void rests() {
        CoastThree x = new CoastThree();
        due.is("42: nothing", x.rest(0, 0), NOTHING);
        due.is("42: below", x.rest(-1, 1), BAD);
        due.is("42: above", x.rest(5, 1), BAD);
        int[][] rows = {{17, 5, 2}, {-17, 5, -2}, {17, -5, 2}, {-17, -5, -2}, {MIN, -1, 0}, {MIN, MAX, -1}, {5, MIN, 5},
            {0, 3, 0}, {3, 0, NO}, {0, 0, NO}};
        for (int[] r : rows) {
            x.lay(0, 3, r[0]);
            due.is("42: rest of " + r[0] + " by " + r[1], x.rest(0, r[1]), r[2]);
        }
        x.mark(0, 0, 0, 0);
        x.lay(0, 1, 0);
        due.is("42: KIND ahead of NO", x.rest(0, 0), KIND);
        x.sheet(0, 0, 0);
        x.lay(0, 2, 0);
        due.is("42: a sheet", x.rest(0, 1), KIND);
    }
}
