/** Sentences on sheets and slots: terms 5, promises 35 to 42. */
final class SheetEdges {
    private static final int BAD = CoastThree.BAD, NO = CoastThree.NO, FULL = CoastThree.FULL, NONE = CoastThree.NONE;
    private static final int NOTHING = CoastThree.NOTHING, KIND = CoastThree.KIND, INDEX = CoastThree.INDEX, SIZE = CoastThree.SIZE;
    private static final int MIN = Integer.MIN_VALUE, MAX = Integer.MAX_VALUE;
    private final Document doc;

    private SheetEdges(Document document) {
        doc = document;
    }

    static void all(Document document) {
        SheetEdges edges = new SheetEdges(document);
        edges.sheets();
        edges.slots();
        edges.nothing();
        edges.noSuchPlace();
        edges.sizeAndKind();
        edges.sheet();
        edges.write();
        edges.log();
        edges.logRefused();
        edges.copy();
        edges.copyRefused();
        edges.lay();
        edges.ask();
        edges.item();
        edges.rest();
    }

    private static CoastThree sheet(int sheet, int sort, int... row) {
        CoastThree x = new CoastThree();
        fill(x, sheet, sort, row);
        return x;
    }

    private static void fill(CoastThree x, int sheet, int sort, int... row) {
        x.sheet(sheet, sort, row.length);
        for (int i = 0; i < row.length; i++) {
            x.write(sheet, i, row[i]);
        }
    }

    /** By slot 4, which is laid anew; fog is told as KIND. */
    private void row(CoastThree x, int sheet, int... want) {
        doc.is("laid", x.lay(4, 2, sheet) < 0 ? 0 : 1, 1);
        for (int i = 0; i < want.length; i++) {
            doc.is("place " + i, x.item(4, i), want[i]);
        }
        doc.is("its end", x.item(4, want.length), INDEX);
    }

    private void sheets() {
        doc.term(5, "SHEETS 0 .. 3 are rows of ints (sort 0) or floats (1; whole numbers), with 0 to 24 places, or MISSING (at first).");
        doc.edges("sheet(sheet, 0, 1)", BAD, 0, 3, s -> new CoastThree().sheet(s, 0, 1), 1, 1);
        for (int s = 0; s < 4; s++) {
            CoastThree x = new CoastThree();
            doc.is("MISSING at first", x.lay(0, 2, s), NOTHING);
            x.sheet(s, 0, 24);
            for (int other = 0; other < 4; other++) {
                doc.is("the others still are", x.lay(1, 2, other), other == s ? 0 : NOTHING);
            }
            row(x, s, new int[24]);
            x.sheet(s, 1, 0);
            row(x, s);
        }
        doc.is("the last place of the longest", sheet(0, 1, new int[24]).write(0, 23, 5), 1);
        doc.is("none behind it", sheet(0, 1, new int[24]).write(0, 24, 5), INDEX);
        doc.term(5, "A place of floats may be NO NUMBER (fog).");
        row(sheet(2, 1, NONE, 0, NONE), 2, KIND, 0, KIND);
        row(sheet(2, 0, NONE, 0, NONE), 2, NONE, 0, NONE);
        row(sheet(2, 1, 0), 2, 0);
    }

    private void slots() {
        doc.term(5, "SLOTS 0 .. 4 each hold nothing (at first), a MARK (as it is then, for good), a SHEET (a row of its own, as it was then), "
                + "or a number.");
        doc.edges("lay(slot, 0, 0)", BAD, 0, 4, s -> new CoastThree().lay(s, 0, 0), 0, 0);
        CoastThree x = sheet(0, 0, 1, 2);
        for (int s = 0; s < 5; s++) {
            doc.is("nothing at first", x.lay(s, 3, s), 0);
        }
        for (int s = 0; s < 5; s++) {
            doc.is("each its own number", x.rest(s, 9), s);
        }
        x.keep();
        x.mark(3, 0, 0, 0);
        x.lay(0, 1, 0);
        x.back();
        doc.is("a MARK, though it is gone", x.ask(0, 3), 5);
        x.mark(7, 0, 0, 0);
        doc.is("a MARK, though another has its number", x.ask(0, 0), 5);
        x.lay(1, 2, 0);
        x.write(0, 0, 77);
        doc.is("a row of its own", x.item(1, 0), 1);
        x.lay(2, 2, 0);
        doc.is("as it is now", x.item(2, 0), 77);
        doc.is("the first as it was then", x.item(1, 0), 1);
        x.smooth(0);
        x.sheet(0, -1, 0);
        doc.is("though the SHEET is MISSING", x.item(2, 1), 2);
        x.sheet(0, 1, 9);
        doc.is("though the SHEET is longer", x.item(2, 2), INDEX);
    }

    private void nothing() {
        doc.term(5, "FINDINGS: NOTHING: a SHEET is MISSING, a SLOT holds nothing;");
        CoastThree x = sheet(0, 0, 1);
        doc.is("smooth", x.smooth(1), NOTHING);
        doc.is("changes", x.changes(0, 1), NOTHING);
        doc.is("from", x.from(1), NOTHING);
        doc.is("write", x.write(1, 0, 0), NOTHING);
        doc.is("log", x.log(1, 0), NOTHING);
        doc.is("copy", x.copy(0, 0, 1, 0, 1), NOTHING);
        doc.is("lay", x.lay(0, 2, 1), NOTHING);
        doc.is("ask", x.ask(0, 0), NOTHING);
        doc.is("item", x.item(0, 0), NOTHING);
        doc.is("rest", x.rest(0, 1), NOTHING);
        x.lay(0, 3, 1);
        x.lay(0, 0, 1);
        doc.is("nothing again", x.rest(0, 1), NOTHING);
    }

    private void noSuchPlace() {
        doc.term(5, "INDEX: there is no such place;");
        CoastThree x = sheet(0, 0, 1, 2, 3);
        x.lay(0, 2, 0);
        doc.edges("write(0, place, 5)", INDEX, 0, 2, p -> sheet(0, 0, 1, 2, 3).write(0, p, 5), 1, 1);
        doc.edges("item(0, place)", INDEX, 0, 2, p -> x.item(0, p), 1, 3);
        doc.edges("copy(0, place, 0, 0, 1)", INDEX, 0, 2, p -> sheet(0, 0, 1, 2, 3).copy(0, p, 0, 0, 1), 1, 1);
        doc.edges("copy(0, 0, 0, at, 1)", INDEX, 0, 2, p -> sheet(0, 0, 1, 2, 3).copy(0, 0, 0, p, 1), 1, 1);
        x.sheet(0, 0, 0);
        doc.is("no place at all", x.write(0, 0, 0), INDEX);
    }

    private void sizeAndKind() {
        doc.term(5, "SIZE: a number of places is below 0;");
        for (int sort = 0; sort < 2; sort++) {
            doc.is("-1", new CoastThree().sheet(0, sort, -1), SIZE);
            doc.is("far below", new CoastThree().sheet(0, sort, MIN), SIZE);
            doc.is("0 is not", new CoastThree().sheet(0, sort, 0), 0);
        }
        doc.term(5, "KIND: it is none (of a KIND, a number, or another thing).");
        CoastThree x = sheet(0, 1, NONE);
        x.mark(0, 0, 0, 0);
        x.sheet(1, 0, 1);
        x.lay(1, 1, 0);
        x.lay(2, 2, 0);
        x.lay(3, 3, 5);
        doc.is("as", x.as(0, 1), KIND);
        doc.is("name", x.name(0, 1), KIND);
        doc.is("changes", x.changes(0, 1), KIND);
        doc.is("copy", x.copy(0, 0, 1, 0, 1), KIND);
        int[][] want = {{1, KIND, KIND}, {KIND, KIND, KIND}, {KIND, KIND, 1}};
        for (int s = 1; s < 4; s++) {
            doc.is("ask(" + s + ", 0)", x.ask(s, 0), want[s - 1][0]);
            doc.is("item(" + s + ", 0)", x.item(s, 0), want[s - 1][1]);
            doc.is("rest(" + s + ", 2)", x.rest(s, 2), want[s - 1][2]);
        }
    }

    private void sheet() {
        doc.promise(35, "A SHEET becomes a row of n places of a sort, all 0 (sort -1: MISSING, n any): n (0).");
        CoastThree x = sheet(1, 0, 5, 6, 7, 8);
        doc.is("shorter", x.sheet(1, 0, 2), 2);
        row(x, 1, 0, 0);
        doc.is("longer again", x.sheet(1, 1, 4), 4);
        row(x, 1, 0, 0, 0, 0);
        int[] any = {MIN, -1, 0, 24, 25, MAX};
        for (int n : any) {
            x.sheet(1, 0, 3);
            doc.is("MISSING, n " + n, x.sheet(1, -1, n), 0);
            doc.is("it is", x.smooth(1), NOTHING);
            doc.is("MISSING once more", x.sheet(1, -1, n), 0);
        }
        doc.promise(35, "BAD: sheet, sort, n above 24;");
        doc.edges("sheet(sheet, 0, 3)", BAD, 0, 3, s -> new CoastThree().sheet(s, 0, 3), 3, 3);
        doc.edges("sheet(0, sort, 3)", BAD, -1, 1, sort -> new CoastThree().sheet(0, sort, 3), 0, 3);
        doc.is("n of 24", new CoastThree().sheet(0, 0, 24), 24);
        doc.is("n of 25", new CoastThree().sheet(0, 0, 25), BAD);
        doc.is("n far above", new CoastThree().sheet(0, 1, MAX), BAD);
        doc.is("MISSING, but no sheet", new CoastThree().sheet(4, -1, 0), BAD);
        doc.is("no sheet, ahead of SIZE", new CoastThree().sheet(-1, 0, -1), BAD);
        doc.is("no sort, ahead of SIZE", new CoastThree().sheet(0, 2, -1), BAD);
        doc.promise(35, "SIZE.");
        CoastThree y = sheet(0, 0, 9);
        doc.is("n of -1", y.sheet(0, 1, -1), SIZE);
        doc.is("n far below", y.sheet(0, 0, MIN), SIZE);
        row(y, 0, 9);
    }

    private void write() {
        doc.promise(36, "A place of a SHEET becomes v (of floats -99999 .. 99999; NONE: NO NUMBER): 1.");
        CoastThree x = sheet(3, 0, 0, 0, 0, 0, 0);
        int[] ints = {MIN, MAX, NONE, 100000, -100000};
        for (int i = 0; i < ints.length; i++) {
            doc.is("write(3, " + i + ", " + ints[i] + ")", x.write(3, i, ints[i]), 1);
        }
        row(x, 3, ints);
        CoastThree y = sheet(3, 1, 0, 0, 0);
        doc.is("the least", y.write(3, 0, -99999), 1);
        doc.is("the greatest", y.write(3, 1, 99999), 1);
        doc.is("NO NUMBER", y.write(3, 2, NONE), 1);
        row(y, 3, -99999, 99999, KIND);
        doc.is("a number again", y.write(3, 2, 4), 1);
        row(y, 3, -99999, 99999, 4);
        doc.promise(36, "BAD: sheet;");
        doc.edges("write(sheet, 0, 0)", BAD, 0, 3, s -> y.write(s, 0, 0), NOTHING, 1);
        doc.promise(36, "NOTHING;");
        doc.is("MISSING", y.write(2, 0, 0), NOTHING);
        doc.is("MISSING, and no such place", y.write(2, -1, 0), NOTHING);
        doc.promise(36, "INDEX;");
        doc.edges("write(3, place, 1)", INDEX, 0, 2, p -> y.write(3, p, 1), 1, 1);
        doc.is("ahead of BAD", y.write(3, 3, 100000), INDEX);
        doc.promise(36, "BAD: v of floats.");
        doc.edges("write(3, 1, v)", BAD, -99999, 99999, v -> y.write(3, 1, v), 1, 1);
        doc.is("right below NONE", y.write(3, 1, NONE - 1), BAD);
        doc.is("right above NONE", y.write(3, 1, NONE + 1), BAD);
        doc.is("BAD itself", y.write(3, 1, BAD), BAD);
        row(y, 3, 1, 99999, 1);
    }

    private void log() {
        doc.promise(37, "MARKS (KIND 0, OFF 0, put to none) of a VOYAGE come from a SHEET's places, one for each DAY from one on, up to the end: "
                + "those of fog, or not 0 .. 999, are left out: how many came.");
        CoastThree x = sheet(0, 1, -1, 0, NONE, 999, 1000, 7);
        doc.is("three of floats", x.log(0, 203), 3);
        int[][] want = {{0, 2, 4, 0, 0, NONE}, {0, 2, 6, 999, 0, NONE}, {0, 2, 8, 7, 0, NONE}};
        for (int m = 0; m < 3; m++) {
            for (int what = 0; what < 6; what++) {
                doc.is("told(" + m + ", " + what + ")", x.told(m, what), want[m][what]);
            }
            doc.is("no NAME", x.told(m, 9), NONE);
        }
        doc.is("no more", x.count(0), 3);
        fill(x, 1, 0, MIN, NONE, MAX, 500);
        doc.is("one of ints", x.log(1, 0), 1);
        doc.is("behind the others", x.told(3, 2), 3);
        doc.is("its place", x.told(3, 3), 500);
        doc.is("no places", sheet(2, 0).log(2, 299), 0);
        doc.is("all left out", sheet(2, 1, NONE, -1, 1000).log(2, 0), 0);
        doc.is("the longest", sheet(2, 0, new int[24]).log(2, 176), 24);
        CoastThree y = sheet(0, 0, 31, 32);
        doc.is("both ends of a SHEET", y.log(0, 0), 2);
        doc.is("its first", y.told(0, 3), 31);
        doc.is("its last", y.told(1, 3), 32);
    }

    private void logRefused() {
        doc.promise(37, "BAD: sheet, when (as of mark());");
        CoastThree x = sheet(3, 0, 5);
        doc.edges("log(sheet, 0)", BAD, 0, 3, s -> x.log(s, 0), NOTHING, 1);
        doc.edges("log(3, when)", BAD, 0, 299, when -> x.log(3, when), 1, 1);
        doc.is("when, ahead of NOTHING", x.log(0, 300), BAD);
        doc.promise(37, "NOTHING;");
        doc.is("MISSING", x.log(0, 299), NOTHING);
        doc.promise(37, "BAD: the last DAY would be above 99;");
        for (int v = 0; v < 3; v++) {
            doc.is("three from 97 on", sheet(0, 0, 1, 2, 3).log(0, 100 * v + 97), 3);
            doc.is("three from 98 on", sheet(0, 0, 1, 2, 3).log(0, 100 * v + 98), BAD);
            doc.is("one on 99", sheet(0, 0, 1).log(0, 100 * v + 99), 1);
            doc.is("two from 99 on", sheet(0, 0, 1, 2).log(0, 100 * v + 99), BAD);
            doc.is("none from 99 on", sheet(0, 0).log(0, 100 * v + 99), 0);
        }
        doc.is("the longest from 76 on", sheet(0, 0, new int[24]).log(0, 76), 24);
        doc.is("the longest from 77 on", sheet(0, 0, new int[24]).log(0, 77), BAD);
        doc.promise(37, "FULL: they have no room (none comes then).");
        CoastThree y = sheet(0, 0, 1, -5, 3);
        for (int i = 0; i < 22; i++) {
            y.mark(0, 0, 0, 0);
        }
        doc.is("room for two", y.log(0, 0), 2);
        doc.is("no room", y.log(0, 0), FULL);
        doc.is("BAD, ahead of FULL", y.log(0, 98), BAD);
        fill(y, 0, 0, -1, 1000);
        doc.is("none needs room", y.log(0, 0), 0);
        CoastThree z = sheet(0, 0, 1, 2);
        for (int i = 0; i < 23; i++) {
            z.mark(0, 0, 0, 0);
        }
        doc.is("room for one of two", z.log(0, 0), FULL);
        doc.is("none came", z.count(0), 23);
    }

    private void copy() {
        doc.promise(38, "So many places of a SHEET come to another one (or the same), as they were: many.");
        CoastThree x = sheet(0, 0, 1, 2, 3, 4);
        fill(x, 3, 0, 9, 9, 9, 9, 9);
        doc.is("some", x.copy(0, 1, 3, 2, 2), 2);
        row(x, 3, 9, 9, 2, 3, 9);
        doc.is("all, to the end", x.copy(0, 0, 3, 1, 4), 4);
        row(x, 3, 9, 1, 2, 3, 4);
        doc.is("none", x.copy(0, 0, 3, 0, 0), 0);
        doc.is("none from behind the last to behind the last", x.copy(0, 4, 3, 5, 0), 0);
        row(x, 3, 9, 1, 2, 3, 4);
        doc.is("the same, up", x.copy(3, 0, 3, 1, 4), 4);
        row(x, 3, 9, 9, 1, 2, 3);
        doc.is("the same, down", x.copy(3, 1, 3, 0, 4), 4);
        row(x, 3, 9, 1, 2, 3, 3);
        doc.is("the same, where it is", x.copy(3, 0, 3, 0, 5), 5);
        row(x, 3, 9, 1, 2, 3, 3);
        CoastThree y = sheet(1, 1, NONE, 5);
        y.sheet(2, 1, 2);
        doc.is("fog", y.copy(1, 0, 2, 0, 2), 2);
        row(y, 2, KIND, 5);
        doc.is("none of none", sheet(0, 0).copy(0, 0, 0, 0, 0), 0);
    }

    private void copyRefused() {
        CoastThree x = sheet(0, 0, 1, 2, 3);
        fill(x, 1, 1, 1, 2, 3);
        fill(x, 2, 0, 8, 9);
        doc.promise(38, "BAD;");
        doc.edges("copy(from, 0, 2, 0, 0)", BAD, 0, 3, s -> x.copy(s, 0, 2, 0, 0), 0, NOTHING);
        doc.edges("copy(2, 0, to, 0, 0)", BAD, 0, 3, s -> x.copy(2, 0, s, 0, 0), 0, NOTHING);
        doc.is("ahead of NOTHING", x.copy(3, 0, 4, 0, 1), BAD);
        doc.is("ahead of INDEX", x.copy(4, -1, 0, -1, -1), BAD);
        doc.promise(38, "NOTHING;");
        doc.is("from", x.copy(3, 0, 0, 0, 1), NOTHING);
        doc.is("to", x.copy(0, 0, 3, 0, 1), NOTHING);
        doc.is("ahead of KIND", x.copy(3, 0, 1, 0, 1), NOTHING);
        doc.is("ahead of INDEX", x.copy(0, 99, 3, 99, 99), NOTHING);
        doc.promise(38, "KIND: they are not of one sort;");
        doc.is("ints to floats", x.copy(0, 0, 1, 0, 1), KIND);
        doc.is("floats to ints", x.copy(1, 0, 0, 0, 1), KIND);
        doc.is("no places", x.copy(1, 0, 0, 0, 0), KIND);
        doc.is("ahead of INDEX", x.copy(0, -1, 1, 99, 99), KIND);
        doc.promise(38, "INDEX.");
        int[][] rows = {{-1, 0, 1}, {0, -1, 1}, {3, 0, 1}, {0, 2, 1}, {2, 0, 2}, {0, 1, 2}, {0, 0, 3}, {1, 0, 3}, {4, 0, 0}, {0, 3, 0},
            {-1, 0, 0}, {0, -1, 0}, {0, 0, -1}, {0, 0, MIN}, {0, 0, MAX}, {MAX, 0, 1}, {0, MAX, 1}, {1, 1, MAX}, {MIN, MIN, MIN},
            {MAX, MAX, MAX}, {1, 0, -1}};
        for (int[] r : rows) {
            doc.is("copy(0, " + r[0] + ", 2, " + r[1] + ", " + r[2] + ")", x.copy(0, r[0], 2, r[1], r[2]), INDEX);
        }
        doc.is("the same, beyond its end", x.copy(0, 0, 0, 1, 3), INDEX);
        row(x, 0, 1, 2, 3);
        row(x, 2, 8, 9);
        doc.promise(38, "(From a SHEET, its place, to a SHEET, its place.)");
        doc.is("in that order", x.copy(0, 2, 2, 1, 1), 1);
        row(x, 2, 8, 3);
        row(x, 0, 1, 2, 3);
    }

    private void lay() {
        doc.promise(39, "A SLOT holds: thing 0 nothing, 1 MARK k, 2 SHEET k, 3 the number k: what it held (0 .. 3).");
        CoastThree x = sheet(3, 0, 1);
        x.mark(0, 0, 0, 0);
        int[][] things = {{3, MIN}, {3, MAX}, {2, 3}, {2, 3}, {1, 0}, {1, 0}, {0, MAX}, {0, MIN}, {1, 0}, {3, 0}, {0, -1}, {2, 3}, {1, 0}, {2, 3}};
        int was = 0;
        for (int[] t : things) {
            doc.is("lay(4, " + t[0] + ", " + t[1] + ")", x.lay(4, t[0], t[1]), was);
            was = t[0];
        }
        doc.promise(39, "BAD: slot, thing, k;");
        doc.edges("lay(slot, 0, 0)", BAD, 0, 4, s -> x.lay(s, 0, 0), 0, 2);
        doc.edges("lay(0, thing, 0)", BAD, 0, 3, t -> x.lay(0, t, 0), 0, 0);
        doc.edges("lay(1, 1, k)", BAD, 0, 0, k -> x.lay(1, 1, k), 0, 1);
        doc.edges("lay(2, 2, k)", BAD, 0, 3, k -> x.lay(2, 2, k), NOTHING, 0);
        doc.is("no MARK at all", new CoastThree().lay(0, 1, 0), BAD);
        doc.is("slot, ahead of NOTHING", x.lay(5, 2, 0), BAD);
        doc.promise(39, "NOTHING: that SHEET is MISSING.");
        x.lay(1, 3, 8);
        doc.is("lay(1, 2, 0)", x.lay(1, 2, 0), NOTHING);
        doc.is("it holds what it held", x.rest(1, 10), 8);
    }

    private void ask() {
        doc.promise(40, "WORTH of the MARK in a SLOT, taken for one of a KIND (0 .. 7).");
        int[] worth = {1, 1, 1, 5, 2, 2, 3, 8};
        for (int kind = 0; kind < 8; kind++) {
            doc.is(kind + " for itself", marked(kind).ask(0, kind), worth[kind]);
            doc.is(kind + " for a MARK", marked(kind).ask(0, 0), worth[kind]);
        }
        doc.is("COPIED for DRAWN", marked(5).ask(0, 4), 2);
        doc.is("ASHORE for DRAWN", marked(7).ask(0, 4), 8);
        doc.promise(40, "BAD;");
        doc.edges("ask(slot, 0)", BAD, 0, 4, s -> marked(7).ask(s, 0), 8, NOTHING);
        doc.edges("ask(0, kind)", BAD, 0, 7, k -> marked(7).ask(0, k), 8, 8);
        doc.is("kind, ahead of NOTHING", marked(7).ask(1, 8), BAD);
        doc.is("kind, ahead of KIND", marked(7).ask(2, -1), BAD);
        doc.promise(40, "NOTHING;");
        doc.is("a SLOT that holds nothing", marked(7).ask(1, 7), NOTHING);
        doc.promise(40, "KIND: it is no MARK, or not of that KIND, nor of one under it.");
        doc.is("a SHEET", marked(7).ask(2, 0), KIND);
        doc.is("a number", marked(7).ask(3, 0), KIND);
        String[] under = {"0", "01", "02", "03", "04", "045", "06", "047"};
        for (int kind = 0; kind < 8; kind++) {
            for (int as = 0; as < 8; as++) {
                doc.is(kind + " for " + as, marked(kind).ask(0, as), under[kind].indexOf('0' + as) >= 0 ? worth[kind] : KIND);
            }
        }
    }

    /** Slot 0 with a MARK of the KIND, 1 and 4 with nothing, 2 with a SHEET of 9 and fog, 3 with the number 17. */
    private static CoastThree marked(int kind) {
        CoastThree x = sheet(0, 1, 9, NONE);
        x.mark(kind, 0, 0, 0);
        x.lay(0, 1, 0);
        x.lay(2, 2, 0);
        x.lay(3, 3, 17);
        return x;
    }

    private void item() {
        CoastThree x = marked(0);
        doc.promise(41, "A place of the SHEET in a SLOT.");
        doc.is("the first", x.item(2, 0), 9);
        x.sheet(1, 0, 24);
        x.write(1, 23, MIN);
        x.lay(4, 2, 1);
        doc.is("the last of the longest", x.item(4, 23), MIN);
        doc.promise(41, "BAD: slot;");
        doc.edges("item(slot, 0)", BAD, 0, 4, s -> x.item(s, 0), KIND, 0);
        doc.promise(41, "NOTHING;");
        doc.is("a SLOT that holds nothing", x.item(1, 0), NOTHING);
        doc.is("ahead of INDEX", x.item(1, -1), NOTHING);
        doc.promise(41, "KIND: it is no SHEET;");
        doc.is("a MARK", x.item(0, 0), KIND);
        doc.is("a number", x.item(3, 0), KIND);
        doc.is("ahead of INDEX", x.item(3, -1), KIND);
        doc.promise(41, "INDEX;");
        doc.edges("item(4, place)", INDEX, 0, 23, p -> x.item(4, p), 0, MIN);
        x.sheet(3, 0, 0);
        x.lay(1, 2, 3);
        doc.is("of no places", x.item(1, 0), INDEX);
        doc.promise(41, "KIND: NO NUMBER.");
        doc.is("fog", x.item(2, 1), KIND);
        doc.is("right behind it", x.item(2, 2), INDEX);
        x.write(1, 0, NONE);
        x.lay(4, 2, 1);
        doc.is("an int is no fog", x.item(4, 0), NONE);
    }

    private void rest() {
        CoastThree x = marked(0);
        doc.promise(42, "The rest of the number in a SLOT by n.");
        int[][] rows = {{17, 5, 2}, {-17, 5, -2}, {17, -5, 2}, {-17, -5, -2}, {17, 17, 0}, {17, 18, 17}, {0, 5, 0}, {5, 1, 0}, {5, -1, 0},
            {MIN, -1, 0}, {MIN, 1, 0}, {MIN, MAX, -1}, {MAX, MIN, MAX}, {MIN, MIN, 0}, {MAX, -1, 0}};
        for (int[] r : rows) {
            x.lay(4, 3, r[0]);
            doc.is(r[0] + " by " + r[1], x.rest(4, r[1]), r[2]);
        }
        doc.promise(42, "BAD: slot;");
        doc.edges("rest(slot, 5)", BAD, 0, 4, s -> x.rest(s, 5), KIND, 2);
        doc.is("ahead of NO", x.rest(5, 0), BAD);
        doc.promise(42, "NOTHING;");
        doc.is("a SLOT that holds nothing", x.rest(1, 5), NOTHING);
        doc.is("ahead of NO", x.rest(1, 0), NOTHING);
        doc.promise(42, "KIND: it is no number;");
        doc.is("a MARK", x.rest(0, 5), KIND);
        doc.is("a SHEET", x.rest(2, 5), KIND);
        doc.is("ahead of NO", x.rest(0, 0), KIND);
        doc.promise(42, "NO: n is 0.");
        doc.is("17 by 0", x.rest(3, 0), NO);
        x.lay(3, 3, 0);
        doc.is("0 by 0", x.rest(3, 0), NO);
    }
}
