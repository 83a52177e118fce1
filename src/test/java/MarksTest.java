/** Promises 1 to 6: a new object, and marks. */
public final class MarksTest {
    private static final int BAD = CoastThree.BAD, FULL = CoastThree.FULL, NONE = CoastThree.NONE, KIND = CoastThree.KIND;
    private static final int MIN = Integer.MIN_VALUE, MAX = Integer.MAX_VALUE;
    private static final Due due = new Due();

    public static void main(String[] args) {
        newObject();
        marksAreCounted();
        marksAreRefused();
        kindsSaySpanAndAreWorth();
        lawsLean();
        leansAreHeld();
        clocksLean();
        kindsUnderOneAnother();
        marksArePut();
        marksAreNamed();
        due.end();
    }

    private static void newObject() {
        CoastThree x = new CoastThree();
        for (int what = 0; what < 8; what++) {
            due.is("1: count " + what, x.count(what), 0);
        }
        due.is("1: z", x.count(8), 1);
        due.is("1: no mark 0", x.told(0, 0), BAD);
        due.is("1: no text 0", x.of(0, 0), BAD);
        for (int v = 0; v < 3; v++) {
            for (int key = 0; key < 3; key++) {
                due.is("1: no law", x.why(v, key), NONE);
            }
            due.is("1: no misses", x.misses(v, 0), 0);
            due.is("1: all settings", x.clock(v, 0, 0), 101);
        }
        for (int c = 0; c < 9; c++) {
            due.is("1: not surveyed", x.survey(c, 0), NONE);
            due.is("1: no marks", x.cape(c, 0), 0);
            due.is("1: no name", x.kept(c), NONE);
        }
        for (int i = 0; i < 4; i++) {
            due.is("1: missing", x.write(i, 0, 0), CoastThree.NOTHING);
        }
        for (int i = 0; i < 5; i++) {
            due.is("1: nothing held", x.lay(i, 0, 0), 0);
        }
        due.is("1: no image", x.back(), CoastThree.NO);
    }

    private static void marksAreCounted() {
        CoastThree x = new CoastThree();
        for (int i = 0; i < 24; i++) {
            due.is("2: number", x.mark(i % 8, i * 12, i * 40, i - 12), i);
        }
        due.is("2: the 25th", x.mark(0, 0, 0, 0), FULL);
        due.is("2: BAD ahead of FULL", x.mark(0, 300, 0, 0), BAD);
        due.is("2: still 24", x.count(0), 24);
        for (int i = 0; i < 24; i++) {
            due.is("3: kind", x.told(i, 0), i % 8);
            due.is("3: voyage", x.told(i, 1), i * 12 / 100);
            due.is("3: day", x.told(i, 2), i * 12 % 100);
            due.is("3: at", x.told(i, 3), i * 40);
            due.is("3: off", x.told(i, 4), i - 12);
            due.is("3: cape", x.told(i, 5), NONE);
            due.is("3: name", x.told(i, 9), NONE);
        }
    }

    private static void marksAreRefused() {
        CoastThree x = new CoastThree();
        int[][] bad = {{-1, 0, 0, 0}, {8, 0, 0, 0}, {0, -1, 0, 0}, {0, 300, 0, 0}, {0, 0, -1, 0}, {0, 0, 1000, 0},
            {0, 0, 0, -100}, {0, 0, 0, 100}, {MIN, 0, 0, 0}, {0, MAX, 0, 0}, {0, 0, MIN, 0}, {0, 0, 0, MAX}};
        for (int[] b : bad) {
            due.is("2: BAD", x.mark(b[0], b[1], b[2], b[3]), BAD);
        }
        due.is("2: none came", x.count(0), 0);
        due.is("2: the lowest", x.mark(0, 0, 0, -99), 0);
        due.is("2: the highest", x.mark(7, 299, 999, 99), 1);
        due.is("3: day 99", x.told(1, 2), 99);
        due.is("3: voyage 2", x.told(1, 1), 2);
        due.is("3: mark below", x.told(-1, 0), BAD);
        due.is("3: mark above", x.told(2, 0), BAD);
        due.is("3: what below", x.told(0, -1), BAD);
        due.is("3: what above", x.told(0, 13), BAD);
    }

    /** at, off, day, then what each kind says, spans, is worth. */
    private static void kindsSaySpanAndAreWorth() {
        int[][] rows = {
            {999, 99, 99}, {999, 999, 999, 999, 1008, 1005, 999, 999}, {20, 59, 15, 14, 25, 35, 20, 2},
            {0, -99, 0}, {0, 0, 0, 0, -9, -5, 0, 0}, {20, 10, 15, 5, 25, 35, 20, 2},
            {503, -9, 10}, {503, 503, 503, 503, 503, 500, 503, 503}, {20, 35, 15, 6, 25, 35, 20, 2},
            {19, 10, 9}, {19, 19, 19, 19, 20, 20, 19, 19}, {20, 10, 15, 5, 25, 35, 20, 2},
            {3, -79, 11}, {3, 3, 3, 3, -4, 0, 3, 3}, {20, 10, 15, 6, 25, 35, 20, 2},
        };
        int[] worth = {1, 1, 1, 5, 2, 2, 3, 8};
        for (int r = 0; r < rows.length; r += 3) {
            CoastThree x = new CoastThree();
            for (int k = 0; k < 8; k++) {
                x.mark(k, 100 + rows[r][2], rows[r][0], rows[r][1]);
                due.is("3: says, kind " + k + " row " + r, x.told(k, 6), rows[r + 1][k]);
                due.is("3: span, kind " + k + " row " + r, x.told(k, 7), rows[r + 2][k]);
                due.is("3: worth, kind " + k, x.told(k, 8), worth[k]);
                due.is("3: log without a law", x.told(k, 10), 100);
                due.is("3: needle without a law", x.told(k, 11), 0);
                due.is("3: watch without a law", x.told(k, 12), 0);
            }
        }
    }

    private static void lawsLean() {
        CoastThree x = new CoastThree();
        for (int k = 0; k < 8; k++) {
            x.mark(k, 130, 201, 42);
            x.mark(k, 30, 201, 42);
        }
        Tape.law(x, "log 1 d * 5 / 2");
        Tape.law(x, "needle 1 o - a / 10");
        Tape.law(x, "watch 1 d + a - 300");
        int[] says = {201, 150, 223, 132, 205, 205, 201, 201};
        int[] without = {201, 201, 201, 201, 205, 205, 201, 201};
        for (int k = 0; k < 8; k++) {
            due.is("3: log, kind " + k, x.told(2 * k, 10), 75);
            due.is("3: needle, kind " + k, x.told(2 * k, 11), 22);
            due.is("3: watch, kind " + k, x.told(2 * k, 12), -69);
            due.is("3: says, kind " + k, x.told(2 * k, 6), says[k]);
            due.is("3: log of another voyage", x.told(2 * k + 1, 10), 100);
            due.is("3: needle of another voyage", x.told(2 * k + 1, 11), 0);
            due.is("3: watch of another voyage", x.told(2 * k + 1, 12), 0);
            due.is("3: says of another voyage", x.told(2 * k + 1, 6), without[k]);
        }
    }

    private static void leansAreHeld() {
        CoastThree x = new CoastThree();
        x.mark(1, 250, 990, 0);
        String[] laws = {"log 2 400", "log 2 401", "log 2 1", "log 2 0", "log 2 0-5", "needle 2 200", "needle 2 201",
            "needle 2 0-200", "needle 2 0-201", "watch 2 200", "watch 2 201", "watch 2 0-200", "watch 2 0-201"};
        int[] held = {400, 400, 1, 1, 1, 200, 200, -200, -200, 200, 200, -200, -200};
        for (int i = 0; i < laws.length; i++) {
            due.is("9: " + laws[i], Tape.law(x, laws[i]), i);
            due.is("3: held, " + laws[i], x.told(0, i < 5 ? 10 : i < 9 ? 11 : 12), held[i]);
        }
        due.is("3: least run", x.told(0, 6), 9);
        x = new CoastThree();
        x.mark(1, 250, 999, 0);
        Tape.law(x, "log 2 9999");
        due.is("3: greatest run", x.told(0, 6), 3996);
    }

    private static void clocksLean() {
        CoastThree x = new CoastThree();
        for (int day = 48; day < 53; day++) {
            x.mark(3, 100 + day, 500, 0);
        }
        x.mark(3, 50, 500, 0);
        x.set(1, 50, -30);
        int[] watch = {0, 0, -30, -30, -30, 0};
        for (int i = 0; i < 6; i++) {
            due.is("3: watch set, mark " + i, x.told(i, 12), watch[i]);
            due.is("3: says by a watch set, mark " + i, x.told(i, 6), 500 + watch[i]);
        }
        Tape.law(x, "watch 1 d");
        int[] both = {48, 49, 20, 21, 22, 0};
        for (int i = 0; i < 6; i++) {
            due.is("3: law and setting, mark " + i, x.told(i, 12), both[i]);
        }
        Tape.law(x, "watch 1 210");
        due.is("3: held when together", x.told(2, 12), 180);
        due.is("3: held ahead of the day", x.told(1, 12), 200);
        Tape.law(x, "watch 1 9999 * 9999 * 21 + 9999 * 4790 + 8416");
        x.set(1, 0, 200);
        due.is("3: together as whole numbers", x.told(0, 12), 200);
    }

    private static void kindsUnderOneAnother() {
        CoastThree x = new CoastThree();
        for (int k = 0; k < 8; k++) {
            x.mark(k, 0, 100 + k, 0);
        }
        for (int k = 0; k < 8; k++) {
            for (int as = 0; as < 8; as++) {
                boolean under = as == k || as == 0 || as == 4 && (k == 5 || k == 7);
                due.is("4: " + k + " as " + as, x.as(k, as), under ? 100 + k : KIND);
            }
            due.is("4: kind below", x.as(k, -1), BAD);
            due.is("4: kind above", x.as(k, 8), BAD);
        }
        due.is("4: mark below", x.as(-1, 0), BAD);
        due.is("4: mark above", x.as(8, 0), BAD);
        due.is("4: extreme", x.as(MIN, MAX), BAD);
    }

    private static void marksArePut() {
        CoastThree x = new CoastThree();
        x.mark(0, 0, 0, 0);
        x.mark(0, 0, 0, 0);
        due.is("5: from none", x.put(0, 0), NONE);
        due.is("5: from 0", x.put(0, 8), 0);
        due.is("5: from 8", x.put(0, -1), 8);
        due.is("5: from none again", x.put(0, 3), NONE);
        due.is("5: told", x.told(0, 5), 3);
        due.is("5: the other stays", x.told(1, 5), NONE);
        due.is("5: counted", x.count(1), 1);
        due.is("5: cape below", x.put(0, -2), BAD);
        due.is("5: cape above", x.put(0, 9), BAD);
        due.is("5: mark below", x.put(-1, 0), BAD);
        due.is("5: mark above", x.put(2, 0), BAD);
        due.is("5: NONE is no cape", x.put(0, NONE), BAD);
        due.is("5: nothing changed", x.told(0, 5), 3);
    }

    private static void marksAreNamed() {
        CoastThree x = new CoastThree();
        for (int k = 0; k < 8; k++) {
            x.mark(k, 0, 0, 0);
        }
        for (int k = 0; k < 8; k++) {
            due.is("6: kind " + k, x.name(k, 9), k == 6 ? NONE : KIND);
            due.is("6: BAD ahead of KIND", x.name(k, 10), BAD);
            due.is("6: name below", x.name(k, -1), BAD);
        }
        due.is("6: told anew", x.name(6, 0), 9);
        due.is("6: told once more", x.name(6, 0), 0);
        due.is("6: kept", x.told(6, 9), 0);
        due.is("6: mark below", x.name(-1, 0), BAD);
        due.is("6: mark above", x.name(8, 0), BAD);
    }
}
