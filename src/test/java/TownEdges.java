/** Sentences on towns, surveys and voyages drawn: terms 4 and 5, promises 28 to 34. */
final class TownEdges {
    private static final int BAD = CoastThree.BAD, NO = CoastThree.NO, NONE = CoastThree.NONE;
    private static final int MIN = Integer.MIN_VALUE, MAX = Integer.MAX_VALUE;
    private final Document doc;

    private TownEdges(Document document) {
        doc = document;
    }

    static void all(Document document) {
        TownEdges edges = new TownEdges(document);
        edges.town();
        edges.aCourt();
        edges.court();
        edges.aSurvey();
        edges.survey();
        edges.held();
        edges.misses();
        edges.best();
        edges.missesAndBest();
        edges.z();
        edges.aDraw();
        edges.aSailing();
        edges.theShare();
        edges.share();
    }

    /** One ashore (SPAN 2) at the place, put to cape 0. */
    private static CoastThree ashore(int at) {
        CoastThree x = new CoastThree();
        x.mark(7, 0, at, 0);
        x.put(0, 0);
        return x;
    }

    private void town() {
        doc.term(4, "A TOWN is told to lie n leagues (-99 .. 99) from a CAPE.");
        doc.edges("court(0, n, 0, 1999)", BAD, -99, 99, n -> ashore(500).court(0, n, 0, 1999), 2, 2);
        doc.is("the least n", ashore(500).court(0, -99, 399, 403), 2);
        doc.is("the greatest n", ashore(500).court(0, 99, 597, 601), 2);
        doc.is("a town below 0", ashore(0).court(0, -99, 0, 1999), 0);
    }

    private void aCourt() {
        doc.term(4, "A COURT: that it lies between two places (x to y): 2 it must (all of LEAST and n to MOST and n lies there), 1 it may "
                + "(some of it does), 0 it can't.");
        int[][] rows = {{508, 512, 2}, {507, 513, 2}, {509, 512, 1}, {508, 511, 1}, {509, 511, 1}, {510, 510, 1}, {0, 507, 0}, {0, 508, 1},
            {513, 1999, 0}, {512, 1999, 1}, {0, 511, 1}, {0, 512, 2}, {508, 1999, 2}, {509, 1999, 1}, {0, 0, 0}, {1999, 1999, 0}};
        for (int[] r : rows) {
            doc.is(r[0] + " to " + r[1], ashore(500).court(0, 10, r[0], r[1]), r[2]);
        }
        CoastThree one = ashore(500);
        one.mark(7, 0, 504, 0);
        one.put(1, 0);
        doc.is("one place alone, on it", one.court(0, 0, 502, 502), 2);
        doc.is("one place alone, beside it", one.court(0, 0, 503, 503), 0);
        doc.is("some of it below 0", ashore(0).court(0, 0, 0, 1999), 1);
        doc.is("at 0", ashore(2).court(0, 0, 0, 1999), 2);
    }

    private void court() {
        doc.promise(28, "A COURT on a TOWN n leagues from a CAPE, from x to y (x 0 .. 1999, y x .. 1999): 0 .. 2.");
        doc.edges("court(0, 0, x, 1999)", BAD, 0, 1999, x -> ashore(500).court(0, 0, x, 1999), 2, 0);
        doc.edges("court(0, 0, 500, y)", BAD, 500, 1999, y -> ashore(500).court(0, 0, 500, y), 1, 1);
        doc.edges("court(0, 0, 0, y)", BAD, 0, 1999, y -> ashore(500).court(0, 0, 0, y), 0, 2);
        doc.edges("court(0, 0, 1999, y)", BAD, 1999, 1999, y -> ashore(500).court(0, 0, 1999, y), 0, 0);
        doc.promise(28, "BAD;");
        doc.edges("court(cape, 0, 0, 1999)", BAD, 0, 8, c -> ashore(500).court(c, 0, 0, 1999), 2, NO);
        doc.edges("court(0, n, 0, 1999)", BAD, -99, 99, n -> ashore(500).court(0, n, 0, 1999), 2, 2);
        doc.is("ahead of NO: n", ashore(500).court(1, 100, 0, 0), BAD);
        doc.is("ahead of NO: x", ashore(500).court(1, 0, -1, 0), BAD);
        doc.is("ahead of NO: y", ashore(500).court(1, 0, 1, 0), BAD);
        doc.promise(28, "NO: it does not HOLD.");
        CoastThree x = ashore(500);
        x.mark(7, 0, 504, 0);
        x.put(1, 0);
        doc.is("it just HOLDS", x.court(0, 0, 0, 1999), 2);
        x.mark(7, 0, 505, 0);
        x.put(2, 0);
        doc.is("it does not", x.court(0, 0, 0, 1999), NO);
        doc.is("it is not SEEN", x.court(8, 0, 0, 1999), NO);
    }

    private void aSurvey() {
        doc.term(4, "A SURVEY tells where a CAPE is (0 .. 999; once or again).");
        doc.edges("survey(0, place)", BAD, 0, 999, p -> new CoastThree().survey(0, p), NONE, NONE);
        CoastThree x = new CoastThree();
        int was = NONE;
        for (int place = 999; place >= 0; place -= 333) {
            doc.is("again", x.survey(0, place), was);
            was = place;
        }
        doc.is("one CAPE", x.count(5), 1);
    }

    private void survey() {
        doc.promise(29, "A SURVEY of a CAPE: where it was told to be (NONE).");
        CoastThree x = new CoastThree();
        for (int c = 0; c < 9; c++) {
            doc.is("first of " + c, x.survey(c, c), NONE);
        }
        for (int c = 0; c < 9; c++) {
            doc.is("again of " + c, x.survey(c, 0), c);
        }
        doc.promise(29, "BAD.");
        doc.edges("survey(cape, 0)", BAD, 0, 8, c -> new CoastThree().survey(c, 0), NONE, NONE);
        doc.edges("survey(8, place)", BAD, 0, 999, p -> x.survey(8, p), 0, 0);
        doc.is("as it was", x.survey(8, 1), 999);
    }

    private void held() {
        doc.term(4, "HELD are CAPES surveyed that HOLD with that between LEAST and MOST.");
        int[] places = {497, 498, 499, 502, 503};
        int[] want = {0, 1, 1, 1, 0};
        for (int i = 0; i < places.length; i++) {
            CoastThree x = ashore(500);
            doc.is("not surveyed", x.held(), 0);
            x.survey(0, places[i]);
            doc.is("surveyed at " + places[i], x.held(), want[i]);
        }
        CoastThree x = ashore(500);
        x.survey(0, 502);
        x.mark(7, 0, 504, 0);
        x.put(1, 0);
        doc.is("it just HOLDS", x.held(), 1);
        x.mark(7, 0, 505, 0);
        x.put(2, 0);
        doc.is("it does not HOLD", x.held(), 0);
        x.survey(3, 502);
        doc.is("not SEEN", x.held(), 0);
        doc.promise(30, "HELD, as bits.");
        CoastThree y = new CoastThree();
        doc.is("none", y.held(), 0);
        for (int c = 0; c < 9; c++) {
            y.mark(7, 0, 100 + c, 0);
            y.put(c, c);
            y.survey(c, 100 + c);
            doc.is("up to " + c, y.held(), (2 << c) - 1);
        }
    }

    private void misses() {
        doc.term(4, "MISSES of a VOYAGE: of all its MARKS that are put to a surveyed CAPE what SAYS differs, together; how many these are;");
        CoastThree x = new CoastThree();
        for (int i = 0; i < 24; i++) {
            x.mark(i == 23 ? 4 : 0, 100, i < 12 ? 0 : 999, i == 23 ? 99 : 0);
        }
        doc.is("put to none", x.misses(1, 1), 0);
        for (int i = 0; i < 24; i++) {
            x.put(i, 3);
        }
        doc.is("not surveyed", x.misses(1, 1), 0);
        x.survey(3, 0);
        doc.is("24 MARKS", x.misses(1, 1), 24);
        doc.is("what they SAY", x.misses(1, 0), 12 * 999 + 9);
        x.survey(3, 500);
        doc.is("on both sides", x.misses(1, 0), 12 * 500 + 12 * 499 + 9);
        doc.is("of another VOYAGE", x.misses(0, 0), 0);
        doc.is("how many of another", x.misses(2, 1), 0);
        CoastThree y = ashore(500);
        y.survey(0, 500);
        doc.is("no difference", y.misses(0, 0), 0);
        doc.is("it counts", y.misses(0, 1), 1);
        y.mark(7, 0, 505, 0);
        y.put(1, 0);
        doc.is("though it does not HOLD", y.misses(0, 0), 5);
    }

    /** MARKS of each VOYAGE, so far from what was surveyed. */
    private static int best(int[] zero, int[] one, int[] two) {
        CoastThree x = new CoastThree();
        x.survey(4, 500);
        int[][] rows = {zero, one, two};
        int marks = 0;
        for (int v = 0; v < 3; v++) {
            for (int far : rows[v]) {
                x.mark(0, 100 * v, 500 + far, 0);
                x.put(marks++, 4);
            }
        }
        return x.best();
    }

    private static int[] row(int... numbers) {
        return numbers;
    }

    private void best() {
        doc.term(4, "THE BEST VOYAGE: that with the least MISSES by how many (cut), of those with some; of several the least.");
        doc.is("the least", best(row(3), row(2), row(4)), 1);
        doc.is("the last", best(row(3), row(2), row(1)), 2);
        doc.is("of several", best(row(3), row(-3), row(3)), 0);
        doc.is("of two behind", best(row(4), row(3), row(3)), 1);
        doc.is("by how many", best(row(5), row(4, 4), row(9)), 1);
        doc.is("cut: 9 of 2 is 4", best(row(4), row(0, 9), row(9)), 0);
        doc.is("cut: of several", best(row(0, 9), row(4), row(9)), 0);
        doc.is("5 of 3 is 1", best(row(2), row(1, 2, 2), row(9)), 1);
        doc.is("of those with some", best(row(), row(), row(400)), 2);
        doc.is("no MISSES at all", best(row(0), row(), row(0)), 0);
    }

    private void missesAndBest() {
        doc.promise(31, "MISSES of a VOYAGE: what 0 together, 1 how many MARKS.");
        CoastThree x = ashore(500);
        x.survey(0, 7);
        doc.is("together", x.misses(0, 0), 493);
        doc.is("how many", x.misses(0, 1), 1);
        doc.promise(31, "BAD.");
        doc.edges("misses(voyage, 0)", BAD, 0, 2, v -> x.misses(v, 0), 493, 0);
        doc.edges("misses(0, what)", BAD, 0, 1, what -> x.misses(0, what), 493, 1);
        doc.promise(32, "THE BEST VOYAGE.");
        doc.is("0", best(row(1), row(2), row(3)), 0);
        doc.is("2", best(row(3), row(2), row(1)), 2);
        doc.promise(32, "NONE.");
        doc.is("no MARKS", new CoastThree().best(), NONE);
        doc.is("none surveyed", ashore(5).best(), NONE);
        CoastThree y = ashore(5);
        y.survey(1, 5);
        doc.is("another surveyed", y.best(), NONE);
        y.survey(0, 5);
        y.put(0, -1);
        doc.is("put to none", y.best(), NONE);
    }

    private void z() {
        doc.term(5, "VOYAGES DRAWN: z is told (1 at first).");
        doc.is("at first", new CoastThree().count(8), 1);
        doc.is("seed", new CoastThree().seed(5), 1);
        doc.promise(33, "z becomes v: what it was.");
        CoastThree x = new CoastThree();
        int[] told = {MIN, MAX, 0, -1, BAD, NONE, 1};
        int was = 1;
        for (int v : told) {
            doc.is("seed(" + v + ")", x.seed(v), was);
            doc.is("count(8)", x.count(8), v);
            was = v;
        }
    }

    private void aDraw() {
        doc.term(5, "A draw: z becomes z * 1103515245 + 12345 (an int); it gives z >>> 8.");
        int[][] draws = {{1, 1103527590}, {1103527590, -1770082073}, {-1770082073, 662824084}, {0, 12345}, {-1, -1103502900},
            {MIN, -2147471303}, {MAX, 1043980748}};
        int[] rest = {305, 237, 300, 48, 369, 137, 280};
        for (int i = 0; i < draws.length; i++) {
            CoastThree x = new CoastThree();
            x.survey(0, 500);
            x.seed(draws[i][0]);
            x.keep();
            x.share(1, 0, 0);
            doc.is("z from " + draws[i][0], x.count(8), draws[i][1]);
            x.tell(500 - 200 + rest[i]);
            doc.is("what is seen from " + draws[i][0], x.check(1, 200), 0);
        }
    }

    private static int checked(int s, int n, int[] places, int... sights) {
        CoastThree x = new CoastThree();
        for (int c = 0; c < 9; c++) {
            if (places[c] >= 0) {
                x.survey(c, places[c]);
            }
        }
        x.keep();
        for (int sight : sights) {
            x.tell(sight);
        }
        return x.check(n, s);
    }

    private void aSailing() {
        doc.term(5, "A SAILING by a leaning of s (0 .. 200): for each CAPE surveyed, by numbers, a draw: what is seen is where it is, less s, and "
                + "the draw's rest by 2 times s and 1.");
        int[] three = {-1, 100, -1, -1, 0, -1, -1, -1, 999};
        doc.is("s of 0", checked(0, 1, three, 100, 0, 999), 0);
        doc.is("s of 1", checked(1, 1, three, 101, 1, 998), 0);
        doc.is("s of 5", checked(5, 1, three, 102, -4, 1003), 0);
        doc.is("s of 200", checked(200, 1, three, 205, 37, 1099), 0);
        int[] none = {-1, -1, -1, -1, -1, -1, -1, -1, -1};
        doc.is("no CAPE surveyed", checked(200, 20, none), 0);
        doc.edges("share(1, s, 200)", BAD, 0, 200, s -> new CoastThree().share(1, s, 200), 1, 1);
        CoastThree x = new CoastThree();
        x.share(100, 200, 0);
        doc.is("no CAPE, no draw", x.count(8), 1);
    }

    /** One CAPE at 500; from z = 1 on the draws by 5 rest 7, 1, 9, 7, 5, 10: 2, -4, 4, 2, 0, 5 from it. */
    private static int share(int capes, int n, int s, int t) {
        CoastThree x = new CoastThree();
        for (int c = 0; c < capes; c++) {
            x.survey(c, 500);
        }
        return x.share(n, s, t);
    }

    private void theShare() {
        doc.term(5, "THE SHARE of n SAILINGS (1 .. 100): how many of them have all that is seen within t (0 .. 200) of where it is.");
        doc.edges("share(n, 0, 0)", BAD, 1, 100, n -> share(1, n, 0, 0), 1, 100);
        doc.edges("share(1, 0, t)", BAD, 0, 200, t -> share(1, 1, 0, t), 1, 1);
        int[] near = {1, 1, 3, 3, 5, 6};
        for (int t = 0; t < near.length; t++) {
            doc.is("one CAPE, within " + t, share(1, 6, 5, t), near[t]);
        }
        int[] both = {0, 0, 0, 0, 2, 3};
        for (int t = 0; t < both.length; t++) {
            doc.is("two CAPES, within " + t, share(2, 3, 5, t), both[t]);
        }
        doc.is("none surveyed", share(0, 100, 200, 0), 100);
    }

    private void share() {
        doc.promise(34, "THE SHARE of n SAILINGS by s, within t (z goes on).");
        CoastThree x = new CoastThree();
        x.survey(0, 500);
        x.survey(8, 500);
        doc.is("one, and not within", x.share(1, 5, 1), 0);
        doc.is("two draws", x.count(8), -1770082073);
        doc.is("the next", x.share(1, 5, 4), 1);
        doc.is("four draws", x.count(8), -999580867);
        doc.promise(34, "BAD.");
        doc.edges("share(n, 0, 0)", BAD, 1, 100, n -> x.share(n, 0, 0), 1, 100);
        doc.edges("share(1, s, 200)", BAD, 0, 200, s -> x.share(1, s, 200), 1, 1);
        doc.edges("share(1, 0, t)", BAD, 0, 200, t -> x.share(1, 0, t), 1, 1);
        x.seed(77);
        x.share(0, 0, 0);
        x.share(1, 201, 0);
        x.share(1, 0, 201);
        doc.is("z stays", x.count(8), 77);
    }
}
