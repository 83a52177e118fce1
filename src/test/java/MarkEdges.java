/** Sentences on marks: terms 1, promises 1 to 6. */
final class MarkEdges {
    private static final int BAD = CoastThree.BAD, FULL = CoastThree.FULL, NONE = CoastThree.NONE, KIND = CoastThree.KIND;
    private static final String LARGEST = "9999*9999*21+9999*4790+8416";
    private final Document doc;

    private MarkEdges(Document document) {
        doc = document;
    }

    static void all(Document document) {
        MarkEdges edges = new MarkEdges(document);
        edges.aNewObject();
        edges.voyages();
        edges.twentyFour();
        edges.days();
        edges.places();
        edges.offTheLine();
        edges.putToACape();
        edges.kinds();
        edges.says();
        edges.saysDrawn();
        edges.spans();
        edges.worths();
        edges.leaningsAreHeld();
        edges.withoutALaw();
        edges.lawAndSetting();
        edges.mark();
        edges.told();
        edges.as();
        edges.put();
        edges.name();
    }

    private static CoastThree one(int kind, int when, int at, int off) {
        CoastThree x = new CoastThree();
        x.mark(kind, when, at, off);
        return x;
    }

    private static int told(int what, int kind, int when, int at, int off) {
        return one(kind, when, at, off).told(0, what);
    }

    private void aNewObject() {
        doc.promise(1, "As told; no MARKS.");
        CoastThree x = new CoastThree();
        for (int what = 0; what < 8; what++) {
            doc.is("count(" + what + ")", x.count(what), 0);
        }
        doc.is("told(0, 0)", x.told(0, 0), BAD);
        doc.is("choose(0)", x.choose(0), BAD);
        doc.is("lay(0, 1, 0)", x.lay(0, 1, 0), BAD);
        doc.is("keep()", x.keep(), 0);
    }

    private void voyages() {
        doc.term(1, "VOYAGES 0 .. 2.");
        doc.edges("why(v, 0)", BAD, 0, 2, v -> new CoastThree().why(v, 0), NONE, NONE);
        doc.edges("set(v, 0, 0)", BAD, 0, 2, v -> new CoastThree().set(v, 0, 0), 1, 1);
        doc.edges("clock(v, 0, 0)", BAD, 0, 2, v -> new CoastThree().clock(v, 0, 0), 101, 101);
        doc.edges("misses(v, 0)", BAD, 0, 2, v -> new CoastThree().misses(v, 0), 0, 0);
        doc.edges("match(v, 1, -2)", BAD, 0, 2, v -> new CoastThree().match(v, 1, -2), 0, 0);
        doc.edges("match(1, v, -2)", BAD, 0, 2, v -> new CoastThree().match(1, v, -2), 0, 0);
        doc.edges("join(v, 1)", BAD, 0, 2, v -> new CoastThree().join(v, 1), 0, 0);
        doc.edges("join(1, v)", BAD, 0, 2, v -> new CoastThree().join(1, v), 0, 0);
        doc.edges("mark(0, 100 v)", BAD, 0, 2, v -> new CoastThree().mark(0, v < -9 || v > 9 ? v : 100 * v, 0, 0), 0, 0);
    }

    private void twentyFour() {
        doc.term(1, "MARKS, 24 at most, numbered from 0,");
        CoastThree x = new CoastThree();
        for (int i = 0; i < 24; i++) {
            doc.is("mark " + i, x.mark(0, 0, i, 0), i);
        }
        doc.is("the 25th", x.mark(0, 0, 24, 0), FULL);
        doc.is("the 25th again", x.mark(7, 299, 999, 99), FULL);
        doc.is("count(0)", x.count(0), 24);
        for (int i = 0; i < 24; i++) {
            doc.is("told(" + i + ", 3)", x.told(i, 3), i);
        }
        doc.is("told(24, 3)", x.told(24, 3), BAD);
    }

    private void days() {
        doc.term(1, "each of a VOYAGE, of a DAY 0 .. 99,");
        int[] when = {0, 99, 100, 199, 200, 299};
        for (int w : when) {
            doc.is("voyage of " + w, told(1, 0, w, 0, 0), w / 100);
            doc.is("day of " + w, told(2, 0, w, 0, 0), w % 100);
        }
        doc.edges("mark(0, when, 0, 0)", BAD, 0, 299, w -> new CoastThree().mark(0, w, 0, 0), 0, 0);
        doc.edges("set(0, day, 0)", BAD, 0, 99, d -> new CoastThree().set(0, d, 0), 1, 1);
        doc.edges("clock(0, day, 0)", BAD, 0, 99, d -> new CoastThree().clock(0, d, 0), 101, 101);
    }

    private void places() {
        doc.term(1, "AT a place 0 .. 999 (leagues),");
        doc.edges("mark(0, 0, at, 0)", BAD, 0, 999, at -> new CoastThree().mark(0, 0, at, 0), 0, 0);
        doc.is("the least", told(3, 0, 0, 0, 0), 0);
        doc.is("the greatest", told(3, 0, 0, 999, 0), 999);
    }

    private void offTheLine() {
        doc.term(1, "OFF the line -99 .. 99,");
        doc.edges("mark(0, 0, 0, off)", BAD, -99, 99, off -> new CoastThree().mark(0, 0, 0, off), 0, 0);
        doc.is("the least", told(4, 0, 0, 0, -99), -99);
        doc.is("the greatest", told(4, 0, 0, 0, 99), 99);
    }

    private void putToACape() {
        doc.term(1, "put to a CAPE 0 .. 8 or to none (none, at first),");
        doc.is("none at first", told(5, 0, 0, 0, 0), NONE);
        doc.edges("put(0, cape)", BAD, -1, 8, c -> one(0, 0, 0, 0).put(0, c), NONE, NONE);
        CoastThree x = one(0, 0, 0, 0);
        for (int c = 0; c < 9; c++) {
            x.put(0, c);
            doc.is("put to " + c, x.told(0, 5), c);
            doc.is("capes(0)", x.capes(0), 1 << c);
        }
        x.put(0, -1);
        doc.is("put to none", x.told(0, 5), NONE);
        doc.is("none is seen", x.capes(0), 0);
    }

    private void kinds() {
        doc.term(1, "and of a KIND: 0 MARK; 1 RUN, 2 BEARING, 3 FIX, 4 DRAWN, 6 NAMED, under MARK; 5 COPIED, 7 ASHORE, "
                + "under DRAWN (all are MARKS).");
        doc.edges("mark(kind, 0, 0, 0)", BAD, 0, 7, k -> new CoastThree().mark(k, 0, 0, 0), 0, 0);
        for (int kind = 0; kind < 8; kind++) {
            CoastThree x = one(kind, 0, 77, 0);
            doc.is("told(0, 0)", x.told(0, 0), kind);
            doc.is(kind + " is a MARK", x.as(0, 0), 77);
            doc.is(kind + " is one of itself", x.as(0, kind), 77);
            doc.is(kind + " under DRAWN", x.as(0, 4), kind == 4 || kind == 5 || kind == 7 ? 77 : KIND);
        }
    }

    private void says() {
        doc.term(1, "SAYS (where it is): MARK: AT.");
        doc.is("the least", told(6, 0, 0, 0, 99), 0);
        doc.is("the greatest", told(6, 0, 0, 999, -99), 999);
        doc.term(1, "RUN: AT times LOG by 100.");
        int[][] runs = {{0, 400, 0}, {999, 400, 3996}, {999, 1, 9}, {99, 1, 0}, {100, 1, 1}, {1, 99, 0}, {1, 199, 1}, {999, 99, 989}};
        for (int[] r : runs) {
            doc.is(r[0] + " by a log of " + r[1], saysByLaw(1, r[0], "log 1 " + r[1]), r[2]);
        }
        doc.term(1, "BEARING: AT, and NEEDLE.");
        doc.is("below 0", saysByLaw(2, 0, "needle 1 0-200"), -200);
        doc.is("above 999", saysByLaw(2, 999, "needle 1 200"), 1199);
        doc.term(1, "FIX: AT, and WATCH.");
        doc.is("below 0", saysByLaw(3, 0, "watch 1 0-200"), -200);
        doc.is("above 999", saysByLaw(3, 999, "watch 1 200"), 1199);
    }

    private static int saysByLaw(int kind, int at, String law) {
        CoastThree x = one(kind, 150, at, 0);
        Tape.law(x, law);
        return x.told(0, 6);
    }

    private void saysDrawn() {
        doc.term(1, "DRAWN: as MARK, and OFF by 10.");
        int[][] drawn = {{0, -99, -9}, {0, -10, -1}, {0, -9, 0}, {0, 9, 0}, {0, 10, 1}, {999, 99, 1008}};
        for (int[] d : drawn) {
            doc.is(d[0] + " off " + d[1], told(6, 4, 0, d[0], d[1]), d[2]);
        }
        doc.term(1, "COPIED: as DRAWN, by 5, times 5.");
        int[][] copied = {{0, -99, -5}, {0, -49, 0}, {0, -50, -5}, {4, 9, 0}, {4, 10, 5}, {5, 0, 5}, {9, 0, 5}, {999, 99, 1005}};
        for (int[] c : copied) {
            doc.is(c[0] + " off " + c[1], told(6, 5, 0, c[0], c[1]), c[2]);
        }
        doc.term(1, "ASHORE: as DRAWN, less OFF by 10.");
        for (int off = -99; off < 100; off += 9) {
            doc.is("0 off " + off, told(6, 7, 0, 0, off), 0);
            doc.is("999 off " + off, told(6, 7, 0, 999, off), 999);
        }
    }

    private void spans() {
        doc.term(1, "SPAN: MARK: 20.");
        doc.is("a MARK", told(7, 0, 99, 999, 99), 20);
        doc.term(1, "RUN: half of as MARK, and AT by 20.");
        int[][] runs = {{0, 10}, {19, 10}, {20, 11}, {39, 11}, {980, 59}, {999, 59}};
        for (int[] r : runs) {
            doc.is("a RUN at " + r[0], told(7, 1, 0, r[0], 0), r[1]);
        }
        doc.term(1, "BEARING: 15.");
        doc.is("a BEARING", told(7, 2, 99, 999, 99), 15);
        doc.term(1, "FIX: 5, and DAY by 10.");
        int[][] fixes = {{0, 5}, {9, 5}, {10, 6}, {99, 14}, {100, 5}, {299, 14}};
        for (int[] f : fixes) {
            doc.is("a FIX of " + f[0], told(7, 3, f[0], 999, 99), f[1]);
        }
        doc.term(1, "DRAWN: as MARK, and 5.");
        doc.is("a DRAWN one", told(7, 4, 99, 999, 99), 25);
        doc.term(1, "COPIED: as DRAWN, and 10.");
        doc.is("a COPIED one", told(7, 5, 99, 999, 99), 35);
        doc.term(1, "ASHORE: 2.");
        doc.is("one ASHORE", told(7, 7, 99, 999, 99), 2);
    }

    private void worths() {
        doc.term(1, "WORTH: MARK: 1.");
        doc.is("a MARK", told(8, 0, 0, 0, 0), 1);
        doc.term(1, "FIX: 5.");
        doc.is("a FIX", told(8, 3, 0, 0, 0), 5);
        doc.term(1, "DRAWN: as MARK, and 1.");
        doc.is("a DRAWN one", told(8, 4, 0, 0, 0), 2);
        doc.term(1, "ASHORE: 4 times as DRAWN.");
        doc.is("one ASHORE", told(8, 7, 0, 0, 0), 8);
        doc.term(1, "NAMED: as MARK, and 2.");
        doc.is("a NAMED one", told(8, 6, 0, 0, 0), 3);
        doc.term(1, "(A KIND that is not named does as the one above it.)");
        doc.is("WORTH of a RUN", told(8, 1, 0, 0, 0), 1);
        doc.is("WORTH of a BEARING", told(8, 2, 0, 0, 0), 1);
        doc.is("WORTH of a COPIED one", told(8, 5, 0, 0, 0), 2);
        doc.is("SAYS of a NAMED one", told(6, 6, 0, 444, 99), 444);
        doc.is("SPAN of a NAMED one", told(7, 6, 99, 444, 99), 20);
    }

    private static int leaning(int what, String law) {
        CoastThree x = one(0, 150, 500, 0);
        Tape.law(x, law);
        return x.told(0, what);
    }

    private void leaningsAreHeld() {
        doc.term(1, "LOG, NEEDLE, WATCH of a MARK: what the laws of its VOYAGE give, held within 1 .. 400, -200 .. 200, -200 .. 200;");
        String[] given = {"0-1", "0", "1", "2", "399", "400", "401", LARGEST, LARGEST + "+1"};
        int[] log = {1, 1, 1, 2, 399, 400, 400, 400, 1};
        for (int i = 0; i < given.length; i++) {
            doc.is("log 1 " + given[i], leaning(10, "log 1 " + given[i]), log[i]);
        }
        String[] leaning = {"0-201", "0-200", "0-199", "0", "199", "200", "201", LARGEST, LARGEST + "+1"};
        int[] held = {-200, -200, -199, 0, 199, 200, 200, 200, -200};
        for (int i = 0; i < leaning.length; i++) {
            doc.is("needle 1 " + leaning[i], leaning(11, "needle 1 " + leaning[i]), held[i]);
            doc.is("watch 1 " + leaning[i], leaning(12, "watch 1 " + leaning[i]), held[i]);
        }
        doc.is("a log of another voyage", leaning(10, "log 0 7"), 100);
        doc.is("a needle of another voyage", leaning(11, "needle 2 7"), 0);
        doc.is("a watch of another voyage", leaning(12, "watch 0 7"), 0);
    }

    private void withoutALaw() {
        doc.term(1, "without a law 100, 0, and (for a VOYAGE whose CLOCK was SET) what it was SET by, if DAY is that on which it was, "
                + "or behind it, else 0.");
        doc.is("LOG", told(10, 0, 0, 0, 0), 100);
        doc.is("NEEDLE", told(11, 0, 0, 0, 0), 0);
        doc.is("WATCH, never SET", told(12, 0, 99, 0, 0), 0);
        int[][] set = {{0, 0, 200, 200}, {98, 99, -200, 0}, {99, 99, -200, -200}, {49, 50, 7, 0}, {50, 50, 7, 7}, {51, 50, 7, 7}, {99, 0, 1, 1}};
        for (int[] s : set) {
            CoastThree x = one(3, 200 + s[0], 0, 0);
            x.set(2, s[1], s[2]);
            doc.is("WATCH of day " + s[0] + ", SET on " + s[1], x.told(0, 12), s[3]);
            doc.is("LOG, SET on " + s[1], x.told(0, 10), 100);
            doc.is("NEEDLE, SET on " + s[1], x.told(0, 11), 0);
        }
        CoastThree x = one(3, 299, 0, 0);
        x.set(1, 0, 50);
        doc.is("another VOYAGE's CLOCK", x.told(0, 12), 0);
    }

    private void lawAndSetting() {
        doc.term(1, "(With a law of WATCH both together, as whole numbers, held then.)");
        String[] laws = {LARGEST, "0-" + "(" + LARGEST + ")-1", "300", "0-300", "150", "200", "200", "0-200"};
        int[] by = {200, -200, -150, 150, 50, 1, -200, 200};
        int[] both = {200, -200, 150, -150, 200, 200, 0, 0};
        for (int i = 0; i < laws.length; i++) {
            CoastThree x = one(3, 150, 0, 0);
            x.mark(3, 149, 0, 0);
            Tape.law(x, "watch 1 " + laws[i]);
            int alone = x.told(1, 12);
            x.set(1, 50, by[i]);
            doc.is("watch 1 " + laws[i] + " and " + by[i], x.told(0, 12), both[i]);
            doc.is("the day ahead", x.told(1, 12), alone);
        }
    }

    private void mark() {
        doc.promise(2, "One more MARK (when: 100 times the VOYAGE, and the DAY): its number.");
        CoastThree x = new CoastThree();
        doc.is("the first", x.mark(0, 205, 0, 0), 0);
        doc.is("the second, just like it", x.mark(0, 205, 0, 0), 1);
        doc.is("VOYAGE", x.told(1, 1), 2);
        doc.is("DAY", x.told(1, 2), 5);
        doc.promise(2, "BAD; FULL.");
        for (int i = 2; i < 24; i++) {
            x.mark(0, 0, 0, 0);
        }
        doc.is("full", x.mark(0, 0, 0, 0), FULL);
        int[][] bad = {{-1, 0, 0, 0}, {8, 0, 0, 0}, {0, -1, 0, 0}, {0, 300, 0, 0}, {0, 0, -1, 0}, {0, 0, 1000, 0}, {0, 0, 0, -100},
            {0, 0, 0, 100}};
        for (int[] b : bad) {
            doc.is("BAD", new CoastThree().mark(b[0], b[1], b[2], b[3]), BAD);
            doc.is("BAD though full", x.mark(b[0], b[1], b[2], b[3]), BAD);
        }
        doc.is("none came", x.count(0), 24);
    }

    private void told() {
        doc.promise(3, "Of a MARK: what 0 KIND, 1 VOYAGE, 2 DAY, 3 AT, 4 OFF, 5 CAPE (NONE), 6 SAYS, 7 SPAN, 8 WORTH, 9 NAME (NONE), "
                + "10 LOG, 11 NEEDLE, 12 WATCH.");
        CoastThree x = one(6, 123, 456, -78);
        int[] first = {6, 1, 23, 456, -78, NONE, 456, 20, 3, NONE, 100, 0, 0};
        for (int what = 0; what < 13; what++) {
            doc.is("told(0, " + what + ") at first", x.told(0, what), first[what]);
        }
        x.put(0, 0);
        x.name(0, 0);
        Tape.law(x, "log 1 11");
        Tape.law(x, "needle 1 12");
        Tape.law(x, "watch 1 13");
        int[] then = {6, 1, 23, 456, -78, 0, 456, 20, 3, 0, 11, 12, 13};
        for (int what = 0; what < 13; what++) {
            doc.is("told(0, " + what + ") then", x.told(0, what), then[what]);
        }
        doc.promise(3, "BAD.");
        doc.edges("told(mark, 0)", BAD, 0, 0, m -> one(6, 0, 0, 0).told(m, 0), 6, 6);
        doc.edges("told(0, what)", BAD, 0, 12, what -> one(6, 0, 0, 0).told(0, what), 6, 0);
        doc.is("no mark at all", new CoastThree().told(0, 0), BAD);
    }

    private void as() {
        doc.promise(4, "A MARK as one of a KIND: AT.");
        doc.is("ASHORE as DRAWN", one(7, 0, 999, 0).as(0, 4), 999);
        doc.is("RUN as MARK, at 0", one(1, 0, 0, 0).as(0, 0), 0);
        doc.promise(4, "BAD: mark, kind;");
        doc.edges("as(mark, 0)", BAD, 0, 0, m -> one(7, 0, 5, 0).as(m, 0), 5, 5);
        doc.edges("as(0, kind)", BAD, 0, 7, k -> one(7, 0, 5, 0).as(0, k), 5, 5);
        doc.is("no mark at all", new CoastThree().as(0, 0), BAD);
        doc.promise(4, "KIND: it is not of that KIND, nor of one under it.");
        String[] under = {"0", "01", "02", "03", "04", "045", "06", "047"};
        for (int kind = 0; kind < 8; kind++) {
            for (int as = 0; as < 8; as++) {
                doc.is(kind + " as " + as, one(kind, 0, 5, 0).as(0, as), under[kind].indexOf('0' + as) >= 0 ? 5 : KIND);
            }
        }
    }

    private void put() {
        doc.promise(5, "A MARK is put to a CAPE (-1: none): where it was (NONE).");
        CoastThree x = one(0, 0, 0, 0);
        int[] capes = {-1, 0, 0, 8, -1, -1, 4};
        int[] were = {NONE, NONE, 0, 0, 8, NONE, NONE};
        for (int i = 0; i < capes.length; i++) {
            doc.is("put(0, " + capes[i] + ")", x.put(0, capes[i]), were[i]);
        }
        doc.promise(5, "BAD.");
        doc.edges("put(mark, 0)", BAD, 0, 0, m -> one(0, 0, 0, 0).put(m, 0), NONE, NONE);
        doc.edges("put(0, cape)", BAD, -1, 8, c -> one(0, 0, 0, 0).put(0, c), NONE, NONE);
        doc.is("NONE is no cape", x.put(0, NONE), BAD);
        doc.is("no mark at all", new CoastThree().put(0, 0), BAD);
        doc.is("it stays where it was", x.told(0, 5), 4);
    }

    private void name() {
        doc.promise(6, "A MARK has a NAME: what it had (NONE).");
        CoastThree x = one(6, 0, 0, 0);
        int[] names = {0, 0, 9, 5};
        int[] were = {NONE, 0, 0, 9};
        for (int i = 0; i < names.length; i++) {
            doc.is("name(0, " + names[i] + ")", x.name(0, names[i]), were[i]);
        }
        doc.promise(6, "BAD: mark, name;");
        doc.edges("name(mark, 0)", BAD, 0, 0, m -> one(6, 0, 0, 0).name(m, 0), NONE, NONE);
        doc.edges("name(0, name)", BAD, 0, 9, n -> one(6, 0, 0, 0).name(0, n), NONE, NONE);
        doc.is("-1 is no name", x.name(0, -1), BAD);
        doc.is("it keeps what it had", x.told(0, 9), 5);
        doc.promise(6, "KIND: it is no NAMED one.");
        for (int kind = 0; kind < 8; kind++) {
            doc.is("kind " + kind, one(kind, 0, 0, 0).name(0, 1), kind == 6 ? NONE : KIND);
            doc.is("kind " + kind + ", BAD first", one(kind, 0, 0, 0).name(0, 10), BAD);
        }
    }
}
