/** Sentences on clocks and on copies of a coast: terms 4, promises 23 to 27. */
final class ClockEdges {
    private static final int BAD = CoastThree.BAD, NONE = CoastThree.NONE, NOTHING = CoastThree.NOTHING, KIND = CoastThree.KIND;
    private static final int MIN = Integer.MIN_VALUE, MAX = Integer.MAX_VALUE;
    private final Document doc;

    private ClockEdges(Document document) {
        doc = document;
    }

    static void all(Document document) {
        ClockEdges edges = new ClockEdges(document);
        edges.setAnew();
        edges.settings();
        edges.settingsOfWhich();
        edges.set();
        edges.clock();
        edges.smoothed();
        edges.fog();
        edges.changed();
        edges.madeFrom();
        edges.smooth();
        edges.changes();
        edges.from();
    }

    /** A FIX of voyage 1 on day 50 (SPAN 10), and one ashore of voyage 0 (SPAN 2), so far behind it, in cape 4. */
    private static CoastThree fixed(int at, int behind) {
        CoastThree x = new CoastThree();
        x.mark(3, 150, at, 0);
        x.mark(7, 0, at + behind, 0);
        bothTo(x, 4);
        return x;
    }

    private static void bothTo(CoastThree x, int cape) {
        x.put(0, cape);
        x.put(1, cape);
    }

    private void clock(CoastThree x, int day, int many, int least, int greatest) {
        doc.is("clock(1, " + day + ", 0)", x.clock(1, day, 0), many);
        doc.is("clock(1, " + day + ", 1)", x.clock(1, day, 1), least);
        doc.is("clock(1, " + day + ", 2)", x.clock(1, day, 2), greatest);
    }

    private void setAnew() {
        doc.term(4, "A CLOCK of a VOYAGE is SET on a DAY by so much (-200 .. 200; at most once: told anew it is so).");
        doc.edges("set(1, 0, by)", BAD, -200, 200, by -> new CoastThree().set(1, 0, by), 1, 1);
        CoastThree x = fixed(500, 0);
        x.set(1, 50, 200);
        doc.is("by 200", x.told(0, 6), 700);
        x.set(1, 50, -200);
        doc.is("anew, by -200", x.told(0, 6), 300);
        x.set(1, 51, 9);
        doc.is("anew, on a later DAY", x.told(0, 6), 500);
        x.set(1, 0, 0);
        doc.is("anew, by 0", x.told(0, 6), 500);
        x.set(1, 0, 201);
        doc.is("not by what is refused", x.told(0, 6), 500);
    }

    private void settings() {
        doc.term(4, "SETTINGS of a VOYAGE on a DAY: all s of -50 .. 50 such that, were it SET on that DAY by s (in place of any), all CAPES "
                + "that have a FIX of that VOYAGE would HOLD: how many, the least, the greatest.");
        clock(fixed(500, 0), 50, 25, -12, 12);
        clock(fixed(500, 38), 0, 25, 26, 50);
        clock(fixed(500, 39), 0, 24, 27, 50);
        clock(fixed(500, 62), 0, 1, 50, 50);
        clock(fixed(500, 63), 0, 0, NONE, NONE);
        clock(fixed(500, -38), 0, 25, -50, -26);
        clock(fixed(500, -39), 0, 24, -50, -27);
        clock(fixed(500, -62), 0, 1, -50, -50);
        clock(fixed(500, -63), 0, 0, NONE, NONE);
        CoastThree x = fixed(500, 20);
        clock(x, 50, 25, 8, 32);
        clock(x, 51, 0, NONE, NONE);
        x.set(1, 0, 20);
        clock(x, 51, 0, NONE, NONE);
        clock(x, 50, 25, 8, 32);
        doc.is("it is SET as it was", x.told(0, 12), 20);
        Tape.law(x, "watch 1 8");
        clock(x, 50, 25, 0, 24);
        clock(fixed(500, 12), 51, 101, -50, 50);
        clock(fixed(500, -12), 51, 101, -50, 50);
        clock(fixed(500, 13), 51, 0, NONE, NONE);
        clock(fixed(500, -13), 51, 0, NONE, NONE);
    }

    private void settingsOfWhich() {
        doc.promise(24, "SETTINGS of a VOYAGE on a DAY: what 0 how many, 1 the least, 2 the greatest.");
        CoastThree x = new CoastThree();
        clock(x, 0, 101, -50, 50);
        x.mark(3, 150, 100, 0);
        x.mark(7, 0, 900, 0);
        clock(x, 0, 101, -50, 50);
        x.put(0, 8);
        clock(x, 0, 101, -50, 50);
        x.put(1, 8);
        clock(x, 0, 0, NONE, NONE);
        doc.is("no FIX of voyage 0", x.clock(0, 0, 0), 101);
        doc.is("no FIX of voyage 2", x.clock(2, 0, 0), 101);
        x.put(0, 0);
        x.mark(0, 0, 100, 0);
        x.put(2, 8);
        clock(x, 0, 101, -50, 50);
        doc.is("a cape without a FIX need not HOLD", x.cape(8, 5), 0);
        x.mark(3, 250, 100, 0);
        x.put(3, 8);
        clock(x, 0, 101, -50, 50);
        doc.is("a FIX of voyage 2", x.clock(2, 0, 0), 0);
        CoastThree each = fixed(500, 20);
        for (int c = 0; c < 9; c++) {
            bothTo(each, c);
            clock(each, 0, 25, 8, 32);
            each.put(0, -1);
            clock(each, 0, 101, -50, 50);
        }
        each.mark(7, 0, 900, 0);
        for (int c = 0; c < 9; c++) {
            each.put(1, c);
            each.put(2, c);
            clock(each, 0, 101, -50, 50);
        }
        CoastThree y = fixed(500, 20);
        y.mark(3, 199, 700, 0);
        y.mark(7, 0, 680, 0);
        y.put(2, 5);
        y.put(3, 5);
        clock(y, 99, 0, NONE, NONE);
        y.put(0, -1);
        clock(y, 99, 33, -36, -4);
        clock(y, 0, 33, -36, -4);
    }

    private void set() {
        doc.promise(23, "A CLOCK of a VOYAGE is SET (on a DAY 0 .. 99): 1.");
        for (int v = 0; v < 3; v++) {
            for (int day = 0; day < 100; day += 99) {
                CoastThree x = new CoastThree();
                x.mark(0, 100 * v + day, 0, 0);
                doc.is("set(" + v + ", " + day + ", -5)", x.set(v, day, -5), 1);
                doc.is("told(0, 12)", x.told(0, 12), -5);
            }
        }
        doc.promise(23, "BAD.");
        doc.edges("set(voyage, 0, 0)", BAD, 0, 2, v -> new CoastThree().set(v, 0, 0), 1, 1);
        doc.edges("set(0, day, 0)", BAD, 0, 99, d -> new CoastThree().set(0, d, 0), 1, 1);
        doc.edges("set(0, 0, by)", BAD, -200, 200, by -> new CoastThree().set(0, 0, by), 1, 1);
    }

    private void clock() {
        doc.promise(24, "BAD;");
        doc.edges("clock(voyage, 0, 0)", BAD, 0, 2, v -> fixed(500, 63).clock(v, 0, 0), 101, 101);
        doc.edges("clock(1, day, 0)", BAD, 0, 99, d -> fixed(500, 63).clock(1, d, 0), 0, 0);
        doc.edges("clock(1, 0, what)", BAD, 0, 2, what -> fixed(500, 63).clock(1, 0, what), 0, NONE);
        doc.promise(24, "NONE: (of 1, 2) there are none.");
        doc.is("of 0", fixed(500, 63).clock(1, 0, 0), 0);
        doc.is("of 1", fixed(500, 63).clock(1, 0, 1), NONE);
        doc.is("of 2", fixed(500, 63).clock(1, 0, 2), NONE);
    }

    private static CoastThree sheet(int sheet, int sort, int... row) {
        CoastThree x = new CoastThree();
        fill(x, sheet, sort, row);
        return x;
    }

    private static void fill(CoastThree x, int sheet, int sort, int... row) {
        x.sheet(sheet, sort, row.length);
        for (int i = 0; i < row.length; i++) {
            x.write(sheet, i, row[i]);
        }
    }

    /** All four: 0, 9, 0, and behind them as many places more as the sheet's number. */
    private static CoastThree four() {
        CoastThree x = new CoastThree();
        for (int s = 0; s < 4; s++) {
            x.sheet(s, 0, 3 + s);
            x.write(s, 1, 9);
        }
        return x;
    }

    /** Smoothes sheet 2, and looks at it by a slot; fog is told as KIND. */
    private void smooths(int sort, int[] row, int many, int... want) {
        CoastThree x = sheet(2, sort, row);
        doc.is("smooth of " + row.length, x.smooth(2), many);
        x.lay(0, 2, 2);
        for (int i = 0; i < want.length; i++) {
            doc.is("place " + i, x.item(0, i), want[i]);
        }
        doc.is("its end", x.item(0, want.length), CoastThree.INDEX);
    }

    private static int[] row(int... numbers) {
        return numbers;
    }

    private void smoothed() {
        doc.term(4, "ROWS OF A COAST are SHEETS.");
        smooths(0, row(), 0);
        doc.term(4, "SMOOTHED is a SHEET: each place that is not at an end becomes the sum of it and of those beside it, as they were, by 3 "
                + "(as whole numbers)");
        smooths(0, row(), 0);
        smooths(0, row(90), 0, 90);
        smooths(0, row(90, 0), 0, 90, 0);
        smooths(0, row(90, 0, 0), 1, 90, 30, 0);
        smooths(0, row(9, 0, 0, 30), 2, 9, 3, 10, 30);
        smooths(0, row(0, 0, 2, 0, 0, -2, 0), 2, 0, 0, 0, 0, 0, 0, 0);
        smooths(0, row(1, 0, -6, 0), 2, 1, -1, -2, 0);
        smooths(0, row(MAX, MAX, MAX, MIN, MIN, MIN), 2, MAX, MAX, 715827882, -715827883, MIN, MIN);
        smooths(1, row(99999, 99999, 99998, -99999), 2, 99999, 99998, 33332, -99999);
        int[] longest = new int[24];
        int[] want = new int[24];
        for (int i = 0; i < 24; i++) {
            longest[i] = i * i * 3;
            want[i] = i == 0 || i == 23 ? longest[i] : 3 * i * i + 2;
        }
        smooths(0, longest, 22, want);
    }

    private void fog() {
        doc.term(4, "(if all three are numbers, else as it was).");
        smooths(1, row(9, NONE, 9), 0, 9, KIND, 9);
        smooths(1, row(NONE, 0, 9), 0, KIND, 0, 9);
        smooths(1, row(9, 0, NONE), 0, 9, 0, KIND);
        smooths(1, row(9, 0, NONE, 0, 9), 0, 9, 0, KIND, 0, 9);
        smooths(1, row(NONE, 9, 0, 0, NONE), 1, KIND, 9, 3, 0, KIND);
        smooths(0, row(0, NONE, 0), 1, 0, -333333335, 0);
    }

    private static int changes(int sort, int[] from, int[] to) {
        CoastThree x = sheet(0, sort, from);
        fill(x, 3, sort, to);
        return x.changes(0, 3) == x.changes(3, 0) ? x.changes(0, 3) : BAD;
    }

    private void changed() {
        doc.term(4, "CHANGES from one to another: the least number of places put in, left out, or made another number");
        int[] five = {1, 2, 3, 4, 5};
        doc.is("none to none", changes(0, row(), row()), 0);
        doc.is("all put in", changes(0, row(), five), 5);
        doc.is("all alike", changes(0, five, five), 0);
        doc.is("one left out ahead", changes(0, five, row(2, 3, 4, 5)), 1);
        doc.is("one left out behind", changes(0, five, row(1, 2, 3, 4)), 1);
        doc.is("one left out within", changes(0, five, row(1, 2, 4, 5)), 1);
        doc.is("one made another", changes(0, five, row(1, 2, 9, 4, 5)), 1);
        doc.is("one out, one in", changes(0, five, row(2, 3, 4, 5, 6)), 2);
        doc.is("turned round", changes(0, five, row(5, 4, 3, 2, 1)), 4);
        doc.is("two changed round", changes(0, five, row(2, 1, 3, 4, 5)), 2);
        doc.is("all another", changes(0, five, row(6, 7, 8, 9, 0)), 5);
        doc.is("extremes", changes(0, row(MIN, MAX), row(MAX, MIN)), 2);
        doc.is("none to the longest", changes(0, row(), new int[24]), 24);
        doc.is("the longest, all alike", changes(0, new int[24], new int[24]), 0);
        int[] ones = new int[24];
        java.util.Arrays.fill(ones, 1);
        doc.is("the longest, all another", changes(0, ones, new int[24]), 24);
        doc.term(4, "(NO NUMBER is like NO NUMBER alone).");
        doc.is("like itself", changes(1, row(1, NONE), row(1, NONE)), 0);
        doc.is("not like 0", changes(1, row(1, NONE), row(1, 0)), 1);
        doc.is("put in", changes(1, row(1, 2), row(1, NONE, 2)), 1);
        doc.is("an int is itself", changes(0, row(1, NONE), row(1, NONE)), 0);
    }

    private void madeFrom() {
        doc.term(4, "MADE FROM: of all other SHEETS that are there the one with the fewest CHANGES; of several the least.");
        CoastThree x = sheet(3, 0, 1, 2, 3);
        fill(x, 2, 0, 9, 9, 9);
        doc.is("the only other one", x.from(3), 2);
        fill(x, 1, 0, 1, 9, 9);
        doc.is("the one with the fewest", x.from(3), 1);
        fill(x, 0, 0, 1, 8, 8);
        doc.is("of several the least", x.from(3), 0);
        fill(x, 2, 0, 1, 2, 3);
        doc.is("one just like it", x.from(3), 2);
        doc.is("not itself", x.from(2), 3);
        x.sheet(2, -1, 0);
        doc.is("not one that is MISSING", x.from(3), 0);
        x.sheet(0, 0, 0);
        x.sheet(1, -1, 0);
        doc.is("one without places is there", x.from(3), 0);
        doc.is("of one without places", x.from(0), 3);
    }

    private void smooth() {
        doc.promise(25, "A SHEET is SMOOTHED: how many places are other numbers.");
        smooths(0, row(5, 5, 5, 5, 8), 1, 5, 5, 5, 6, 8);
        smooths(0, row(5, 5, 5, 6, 7), 0, 5, 5, 5, 6, 7);
        doc.promise(25, "BAD;");
        doc.edges("smooth(sheet)", BAD, 0, 3, s -> four().smooth(s), 1, 2);
        doc.promise(25, "NOTHING.");
        CoastThree x = sheet(0, 0, 1);
        for (int s = 0; s < 4; s++) {
            doc.is("smooth(" + s + ")", x.smooth(s), s == 0 ? 0 : NOTHING);
        }
        x.sheet(0, -1, 0);
        doc.is("MISSING again", x.smooth(0), NOTHING);
    }

    private void changes() {
        doc.promise(26, "CHANGES from one SHEET to another one.");
        doc.is("0 to 3", changes(1, row(1, 2), row(1)), 1);
        doc.is("itself", sheet(2, 0, 1, 2).changes(2, 2), 0);
        doc.promise(26, "BAD;");
        doc.edges("changes(from, 0)", BAD, 0, 3, s -> four().changes(s, 0), 0, 3);
        doc.edges("changes(0, to)", BAD, 0, 3, s -> four().changes(0, s), 0, 3);
        doc.is("ahead of NOTHING", sheet(0, 0, 1).changes(4, 3), BAD);
        doc.is("behind NOTHING", sheet(0, 0, 1).changes(3, 4), BAD);
        doc.promise(26, "NOTHING: one is MISSING;");
        doc.is("from", sheet(0, 0, 1).changes(3, 0), NOTHING);
        doc.is("to", sheet(0, 0, 1).changes(0, 3), NOTHING);
        doc.is("both", sheet(0, 0, 1).changes(3, 2), NOTHING);
        doc.is("itself", sheet(0, 0, 1).changes(3, 3), NOTHING);
        doc.is("of floats, not KIND", sheet(0, 1, 1).changes(0, 3), NOTHING);
        doc.promise(26, "KIND: they are not of one sort.");
        CoastThree x = sheet(0, 0, 1);
        x.sheet(1, 1, 0);
        x.sheet(2, 0, 0);
        doc.is("ints to floats", x.changes(0, 1), KIND);
        doc.is("floats to ints", x.changes(1, 0), KIND);
        doc.is("both without places", x.changes(1, 2), KIND);
        doc.is("of one sort", x.changes(0, 2), 1);
    }

    private void from() {
        doc.promise(27, "MADE FROM (of SHEETS of its sort).");
        CoastThree x = sheet(0, 0, 1, 2, 3);
        fill(x, 1, 1, 1, 2, 3);
        fill(x, 2, 0, 7);
        doc.is("of ints", x.from(0), 2);
        fill(x, 3, 1, 8);
        doc.is("of floats", x.from(1), 3);
        doc.promise(27, "BAD;");
        doc.edges("from(sheet)", BAD, 0, 3, s -> x.from(s), 2, 1);
        doc.promise(27, "NOTHING;");
        for (int s = 0; s < 4; s++) {
            doc.is("from(" + s + ")", sheet(0, 0, 1).from(s), s == 0 ? NONE : NOTHING);
        }
        doc.promise(27, "NONE: there is no other one.");
        doc.is("alone", sheet(3, 1, 1).from(3), NONE);
        CoastThree y = sheet(0, 0, 1);
        y.sheet(1, 1, 1);
        doc.is("alone of its sort: ints", y.from(0), NONE);
        doc.is("alone of its sort: floats", y.from(1), NONE);
    }
}
