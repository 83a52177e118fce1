/** Sentences on capes, pairs, passages and names: terms 3, promises 12 to 22. */
final class CapeEdges {
    private static final int BAD = CoastThree.BAD, NO = CoastThree.NO, FULL = CoastThree.FULL, NONE = CoastThree.NONE;
    private static final int[] NOBODY = {};
    private final Document doc;

    private CapeEdges(Document document) {
        doc = document;
    }

    static void all(Document document) {
        CapeEdges edges = new CapeEdges(document);
        edges.seen();
        edges.ends();
        edges.holds();
        edges.theNext();
        edges.standsOnOne();
        edges.cape();
        edges.capes();
        edges.next();
        edges.fiveAtMost();
        edges.mayBePaired();
        edges.theMatch();
        edges.theFirst();
        edges.choose();
        edges.clear();
        edges.match();
        edges.join();
        edges.passages();
        edges.between();
        edges.passageCalls();
        edges.names();
        edges.nameCalls();
    }

    /** Ashore (SPAN 2) on voyage 0, one behind the other, all put to the cape. */
    private static CoastThree ashore(int cape, int... at) {
        CoastThree x = new CoastThree();
        for (int i = 0; i < at.length; i++) {
            x.mark(7, 0, at[i], 0);
            x.put(i, cape);
        }
        return x;
    }

    private void seen() {
        doc.term(3, "A CAPE is SEEN, if a MARK is put to it.");
        CoastThree x = new CoastThree();
        doc.is("no MARK", x.capes(0), 0);
        x.mark(0, 0, 0, 0);
        doc.is("a MARK put to none", x.capes(0), 0);
        x.put(0, 8);
        doc.is("one put to it", x.capes(0), 256);
        x.put(0, 0);
        doc.is("put to another", x.capes(0), 1);
    }

    private void ends() {
        doc.term(3, "ENDS of a CAPE: LEAST, the greatest of SAYS less SPAN of its MARKS; MOST, the least of SAYS and SPAN;");
        CoastThree x = ashore(3, 100);
        doc.is("LEAST of one", x.cape(3, 1), 98);
        doc.is("MOST of one", x.cape(3, 2), 102);
        x.mark(0, 100, 110, 0);
        x.mark(0, 200, 95, 0);
        x.put(1, 3);
        x.put(2, 3);
        doc.is("LEAST: the narrow one's", x.cape(3, 1), 98);
        doc.is("MOST: the narrow one's", x.cape(3, 2), 102);
        x.mark(0, 0, 119, 0);
        x.put(3, 3);
        doc.is("LEAST: the furthest one's", x.cape(3, 1), 99);
        x.mark(0, 0, 81, 0);
        x.put(4, 3);
        doc.is("MOST: the nearest one's", x.cape(3, 2), 101);
        CoastThree y = new CoastThree();
        y.mark(5, 0, 0, -99);
        y.put(0, 0);
        doc.is("LEAST below 0", y.cape(0, 1), -40);
        doc.is("MOST", y.cape(0, 2), 30);
        doc.term(3, "WIDTH: MOST less LEAST.");
        doc.is("below 0", y.cape(0, 3), 70);
        doc.is("of three and more", x.cape(3, 3), 2);
        doc.is("of what does not hold", ashore(1, 0, 999).cape(1, 3), 2 - 997);
        doc.is("of what just holds", ashore(1, 10, 14).cape(1, 3), 0);
        doc.term(3, "MIDDLE: LEAST and MOST together by 2.");
        doc.is("below 0", y.cape(0, 4), -5);
        doc.is("odd", ashore(1, 10, 13).cape(1, 4), 11);
        doc.is("odd and below 0", below().cape(1, 4), 0);
    }

    /** From -2 to 1. */
    private static CoastThree below() {
        CoastThree x = ashore(1, 0);
        x.mark(2, 0, 0, 0);
        Tape.law(x, "needle 0 0-14");
        x.put(1, 1);
        return x;
    }

    private void holds() {
        doc.term(3, "it HOLDS, if it is SEEN and LEAST is not above MOST.");
        doc.is("not SEEN", new CoastThree().cape(0, 5), 0);
        doc.is("LEAST below MOST", ashore(0, 10, 13).cape(0, 5), 1);
        doc.is("LEAST is MOST", ashore(0, 10, 14).cape(0, 5), 1);
        doc.is("LEAST above MOST", ashore(0, 10, 15).cape(0, 5), 0);
        doc.is("in the other order", ashore(0, 15, 10).cape(0, 5), 0);
    }

    private void theNext() {
        doc.term(3, "THE NEXT to look for: of CAPES that HOLD that with the greatest WIDTH; of several the least.");
        CoastThree x = new CoastThree();
        int[] kinds = {7, 0, 4, 4, 5, 5};
        int[] capes = {8, 7, 6, 5, 4, 0};
        for (int i = 0; i < kinds.length; i++) {
            x.mark(kinds[i], 0, 500, 0);
            x.put(i, capes[i]);
            doc.is("after " + i, x.next(), capes[i]);
        }
        x.mark(7, 0, 900, 0);
        x.put(6, 0);
        doc.is("one that no longer HOLDS", x.next(), 4);
        CoastThree y = ashore(2, 10, 14);
        doc.is("a WIDTH of 0", y.next(), 2);
        doc.is("a WIDTH below 0", ashore(2, 10, 15).next(), NONE);
    }

    private void standsOnOne() {
        doc.term(3, "STANDS ON ONE: a CAPE all of whose MARKS are of one VOYAGE.");
        for (int one = 0; one < 3; one++) {
            for (int other = 0; other < 3; other++) {
                CoastThree x = new CoastThree();
                x.mark(0, 100 * one, 0, 0);
                x.mark(0, 100 * other + 99, 0, 0);
                x.put(0, 4);
                doc.is("one MARK", x.cape(4, 7), 1);
                x.put(1, 4);
                doc.is("of " + one + " and " + other, x.cape(4, 7), one == other ? 1 : 0);
            }
        }
        CoastThree x = ashore(4, 0, 999);
        doc.is("though it does not HOLD", x.cape(4, 7), 1);
    }

    private void cape() {
        doc.promise(12, "Of a CAPE (0 .. 8):");
        doc.edges("cape(cape, 0)", BAD, 0, 8, c -> ashore(8, 1).cape(c, 0), 0, 1);
        doc.promise(12, "what 0 how many MARKS, 1 LEAST, 2 MOST, 3 WIDTH, 4 MIDDLE, 5 whether it HOLDS (1, 0), 6 WORTH of its MARKS "
                + "together, 7 whether it STANDS ON ONE (1, 0; 0 if it is not SEEN).");
        int[][] want = {{1, 98, 102, 4, 100, 1, 8, 1}, {2, 103, 102, -1, 102, 0, 16, 1}};
        CoastThree[] coasts = {ashore(6, 100), ashore(6, 100, 105)};
        for (int i = 0; i < coasts.length; i++) {
            for (int what = 0; what < 8; what++) {
                doc.is("cape(6, " + what + ")", coasts[i].cape(6, what), want[i][what]);
            }
        }
        CoastThree none = ashore(6, 100);
        int[] unseen = {0, NONE, NONE, NONE, NONE, 0, 0, 0};
        doc.is("how many MARKS, not SEEN", none.cape(5, 0), 0);
        doc.is("HOLDS, not SEEN", none.cape(5, 5), 0);
        doc.is("WORTH, not SEEN", none.cape(5, 6), 0);
        doc.is("STANDS ON ONE, not SEEN", none.cape(5, 7), 0);
        doc.promise(12, "BAD;");
        doc.edges("cape(6, what)", BAD, 0, 7, what -> ashore(6, 100).cape(6, what), 1, 1);
        doc.edges("cape(5, what), not SEEN", BAD, 0, 7, what -> ashore(6, 100).cape(5, what), 0, 0);
        doc.is("a cape and a what", none.cape(9, 8), BAD);
        doc.promise(12, "NONE: of 1 to 4, if it is not SEEN.");
        for (int what = 0; what < 8; what++) {
            doc.is("cape(5, " + what + ")", none.cape(5, what), unseen[what]);
        }
        none.put(0, -1);
        doc.is("SEEN no more", none.cape(6, 1), NONE);
    }

    private void capes() {
        doc.promise(13, "Of CAPES: what 0 those SEEN, 1 those that HOLD, 2 those that STAND ON ONE, as bits.");
        CoastThree x = new CoastThree();
        for (int what = 0; what < 3; what++) {
            doc.is("none", x.capes(what), 0);
        }
        for (int i = 0; i < 18; i++) {
            x.mark(7, i < 9 ? 0 : i % 3 * 100, i < 9 ? 100 : 100 + i - 9, 0);
            x.put(i, i % 9);
        }
        doc.is("all SEEN", x.capes(0), 511);
        doc.is("those that HOLD", x.capes(1), 31);
        doc.is("those that STAND ON ONE", x.capes(2), 1 + 8 + 64);
        doc.promise(13, "BAD.");
        doc.edges("capes(what)", BAD, 0, 2, what -> ashore(8, 5).capes(what), 256, 256);
    }

    private void next() {
        doc.promise(14, "THE NEXT.");
        doc.is("the first cape", ashore(0, 5).next(), 0);
        doc.is("the last cape", ashore(8, 5).next(), 8);
        doc.promise(14, "NONE.");
        doc.is("none SEEN", new CoastThree().next(), NONE);
        doc.is("none HOLDS", ashore(0, 5, 500).next(), NONE);
    }

    /** MARKS of KIND 0 (SPAN 20), told in order: those of voyage 0, then those of voyage 1. */
    private static CoastThree told(int[] ones, int[] others) {
        CoastThree x = new CoastThree();
        for (int i = 0; i < ones.length + others.length; i++) {
            x.mark(0, i < ones.length ? 0 : 100, i < ones.length ? ones[i] : others[i - ones.length], 0);
            x.choose(i);
        }
        return x;
    }

    private void match(CoastThree x, int one, int other, int... want) {
        for (int i = 0; i < want.length; i++) {
            doc.is("match(" + one + ", " + other + ", " + (i - 2) + ")", x.match(one, other, i - 2), want[i]);
        }
        doc.is("match(" + one + ", " + other + "), one more", x.match(one, other, want.length - 2), BAD);
    }

    private static int[] row(int... numbers) {
        return numbers;
    }

    private void fiveAtMost() {
        doc.term(3, "PAIRS of two unlike VOYAGES: of MARKS of the one, told for it (5 at most of each VOYAGE), and of the other one:");
        CoastThree x = new CoastThree();
        for (int i = 0; i < 18; i++) {
            x.mark(0, i % 3 * 100, 100, 0);
        }
        for (int i = 0; i < 18; i++) {
            doc.is("choose(" + i + ")", x.choose(i), i < 15 ? i / 3 + 1 : FULL);
        }
        match(x, 0, 2, 5, 0, 2, 5, 8, 11, 14);
        match(x, 2, 1, 5, 0, 1, 4, 7, 10, 13);
        match(told(NOBODY, NOBODY), 0, 1, 0, 0);
        match(told(row(5), NOBODY), 0, 1, 0, 0, NONE);
        match(told(NOBODY, row(5)), 0, 1, 0, 0);
    }

    private void mayBePaired() {
        doc.term(3, "a MARK may be paired with one of the other VOYAGE, if their SAYS differ by both SPANS together at most;");
        match(told(row(100), row(140)), 0, 1, 1, 40, 1);
        match(told(row(100), row(141)), 0, 1, 0, 0, NONE);
        match(told(row(140), row(100)), 0, 1, 1, 40, 1);
        match(told(row(141), row(100)), 0, 1, 0, 0, NONE);
        match(told(row(100), row(100)), 1, 0, 1, 0, 0);
        int[] spans = {20, 10, 15, 5, 25, 35, 20, 2};
        for (int kind = 0; kind < 8; kind++) {
            for (int far = spans[kind] + 19; far < spans[kind] + 22; far++) {
                CoastThree x = new CoastThree();
                x.mark(kind, 0, 0, 0);
                x.mark(0, 200, far, 0);
                x.choose(0);
                x.choose(1);
                doc.is("KIND " + kind + ", " + far + " apart", x.match(0, 2, -2), far <= spans[kind] + 20 ? 1 : 0);
            }
        }
        doc.term(3, "no MARK is in two PAIRS.");
        match(told(row(100, 101, 102), row(101)), 0, 1, 1, 0, NONE, 3, NONE);
        match(told(row(100, 101, 102), row(101)), 1, 0, 1, 0, 1);
        match(told(row(100, 100), row(100, 100, 100)), 0, 1, 2, 0, 2, 3);
    }

    private void theMatch() {
        doc.term(3, "THE MATCH: that with the most PAIRS;");
        match(told(row(100, 130), row(131, 170)), 0, 1, 2, 71, 2, 3);
        match(told(row(130, 100), row(131, 170)), 0, 1, 2, 71, 3, 2);
        match(told(row(100, 140, 180, 220, 260), row(140, 180, 220, 260, 300)), 0, 1, 5, 200, 5, 6, 7, 8, 9);
        match(told(row(100, 140, 180, 220, 260), row(140, 180, 220, 260, 301)), 0, 1, 4, 0, NONE, 5, 6, 7, 8);
        doc.term(3, "of several that with the least sum of differences;");
        match(told(row(100), row(120, 119, 118, 117, 116)), 0, 1, 1, 16, 5);
        match(told(row(100, 110), row(111, 99)), 0, 1, 2, 2, 3, 2);
        match(told(row(120, 119, 118, 117, 116), row(100)), 0, 1, 1, 16, NONE, NONE, NONE, NONE, 5);
    }

    private void theFirst() {
        doc.term(3, "of several the first (by the one's MARKS in the order told, each with the earliest told of the other's, none last).");
        match(told(row(100), row(110, 90, 110)), 0, 1, 1, 10, 1);
        match(told(row(100, 120), row(110)), 0, 1, 1, 10, 2, NONE);
        match(told(row(100, 110), row(130, 120)), 0, 1, 2, 40, 2, 3);
        match(told(row(7, 7, 7, 7, 7), row(7, 7, 7, 7, 7)), 0, 1, 5, 0, 5, 6, 7, 8, 9);
        match(told(row(100, 100, 100), row(100, 100)), 0, 1, 2, 0, 3, 4, NONE);
        CoastThree x = new CoastThree();
        for (int i = 0; i < 6; i++) {
            x.mark(0, i % 2 * 100, 50, 0);
        }
        int[] order = {4, 0, 2, 5, 1, 3};
        for (int m : order) {
            x.choose(m);
        }
        match(x, 0, 1, 3, 0, 5, 1, 3);
        match(x, 1, 0, 3, 0, 4, 0, 2);
    }

    private void choose() {
        doc.promise(15, "A MARK is told for its VOYAGE's PAIRS: how many of that VOYAGE are.");
        CoastThree x = new CoastThree();
        for (int i = 0; i < 12; i++) {
            x.mark(0, i < 6 ? 0 : 200, 0, 0);
        }
        for (int i = 0; i < 5; i++) {
            doc.is("of voyage 0", x.choose(i), i + 1);
            doc.is("of voyage 2", x.choose(11 - i), i + 1);
        }
        doc.promise(15, "BAD;");
        doc.edges("choose(mark)", BAD, 0, 11, m -> x.choose(m), NO, NO);
        doc.is("no MARK at all", new CoastThree().choose(0), BAD);
        doc.promise(15, "NO: it is;");
        CoastThree y = new CoastThree();
        y.mark(0, 0, 0, 0);
        doc.is("the first time", y.choose(0), 1);
        doc.is("the second time", y.choose(0), NO);
        doc.is("though 5 are", x.choose(4), NO);
        doc.is("it is once", y.count(4), 1);
        doc.promise(15, "FULL: 5 are.");
        doc.is("a sixth of voyage 0", x.choose(5), FULL);
        doc.is("a sixth of voyage 2", x.choose(6), FULL);
        doc.is("how many are", x.count(4), 10);
    }

    private void clear() {
        doc.promise(16, "No MARK is told any more: how many were.");
        CoastThree x = told(row(1, 2, 3, 4, 5), row(1, 2));
        doc.is("seven", x.clear(), 7);
        doc.is("none", x.clear(), 0);
        doc.is("no pairs", x.match(0, 1, -2), 0);
        doc.is("none of the one", x.match(0, 1, 0), BAD);
        doc.is("told again", x.choose(4), 1);
        doc.is("of none", new CoastThree().clear(), 0);
    }

    private void match() {
        doc.promise(17, "THE MATCH of two VOYAGES: what -2 how many PAIRS, -1 the sum of differences, 0 .. 4 which MARK of the other one the "
                + "i-th told of the one has (NONE).");
        CoastThree x = told(row(100, 500, 300, 700, 900), row(905, 310));
        match(x, 0, 1, 2, 15, NONE, NONE, 6, NONE, 5);
        match(x, 1, 0, 2, 15, 4, 2);
        doc.promise(17, "BAD: voyages (also one and itself), what (of told ones alone).");
        doc.edges("match(one, 1, -2)", BAD, 0, 2, one -> x.match(one, 1, -2), 2, 0);
        doc.edges("match(1, other, -2)", BAD, 0, 2, other -> x.match(1, other, -2), 2, 0);
        doc.edges("match(0, 1, what)", BAD, -2, 4, what -> x.match(0, 1, what), 2, 5);
        doc.edges("match(1, 0, what)", BAD, -2, 1, what -> x.match(1, 0, what), 2, 2);
        doc.edges("match(2, 0, what)", BAD, -2, -1, what -> x.match(2, 0, what), 0, 0);
        for (int v = 0; v < 3; v++) {
            for (int what = -2; what < 5; what++) {
                doc.is("itself", x.match(v, v, what), BAD);
            }
        }
    }

    private void join() {
        doc.promise(18, "All PAIRS of THE MATCH: the other one's MARK is put to the CAPE of the one's, if that has one: how many are put "
                + "otherwise than they were.");
        CoastThree x = told(row(100, 300, 500, 700, 900), row(901, 701, 501, 301, 101));
        doc.is("no MARK has a CAPE", x.join(0, 1), 0);
        for (int i = 0; i < 5; i++) {
            x.put(i, 8 - 2 * i);
        }
        x.put(1, -1);
        x.put(8, 3);
        x.put(7, 4);
        doc.is("put otherwise", x.join(0, 1), 3);
        int[] capes = {8, NONE, 4, 2, 0, 0, 2, 4, 3, 8};
        for (int i = 0; i < 10; i++) {
            doc.is("told(" + i + ", 5)", x.told(i, 5), capes[i]);
        }
        doc.is("once more", x.join(0, 1), 0);
        doc.is("the other way", x.join(1, 0), 1);
        doc.is("by its pair", x.told(1, 5), 3);
        doc.is("no pairs", new CoastThree().join(0, 1), 0);
        doc.promise(18, "BAD.");
        for (int v = -1; v < 4; v++) {
            doc.is("itself", x.join(v, v), BAD);
            doc.is("below", x.join(v, -1), BAD);
            doc.is("above", x.join(v, 3), BAD);
            doc.is("one below", x.join(-1, v), BAD);
            doc.is("one above", x.join(3, v), BAD);
        }
    }

    private void passages() {
        doc.term(3, "PASSAGES, 20 at most, between two unlike CAPES, how: 0 went through by ship, 1 walked, 2 drawn shut, 3 drawn open.");
        CoastThree x = new CoastThree();
        for (int i = 0; i < 20; i++) {
            doc.is("passage " + i, x.passage(0, 1, 0), i + 1);
        }
        doc.is("the 21st", x.passage(2, 3, 1), FULL);
        doc.is("it is not there", x.between(2, 3), 0);
        doc.is("how many", x.count(3), 20);
        int[] alone = {2, 1, 5, 4};
        for (int how = 0; how < 4; how++) {
            doc.is("how " + how, after(how), alone[how]);
        }
    }

    private static int after(int... hows) {
        CoastThree x = new CoastThree();
        for (int i = 0; i < hows.length; i++) {
            x.passage(i % 2 == 0 ? 0 : 8, i % 2 == 0 ? 8 : 0, hows[i]);
        }
        return x.between(8, 0) == x.between(0, 8) ? x.between(0, 8) : BAD;
    }

    private void between() {
        doc.term(3, "Of two CAPES: STRAIT (2), if somebody went through and nobody walked;");
        doc.is("once", after(0), 2);
        doc.is("though drawn shut", after(2, 2, 0), 2);
        doc.term(3, "NECK (1), if somebody walked, and nobody went through;");
        doc.is("once", after(1), 1);
        doc.is("though drawn open", after(3, 3, 1), 1);
        doc.term(3, "DOUBTFUL (3) if both;");
        doc.is("each once", after(0, 1), 3);
        doc.is("whatever is drawn and how often", after(1, 0, 0, 0, 3, 2, 2), 3);
        doc.term(3, "else by drawings: OPEN (4) if more drew it open than shut,");
        doc.is("one, none", after(3), 4);
        doc.is("two, one", after(2, 3, 3), 4);
        doc.term(3, "SHUT (5) if fewer;");
        doc.is("none, one", after(2), 5);
        doc.is("one, two", after(3, 2, 2), 5);
        doc.term(3, "0 else.");
        doc.is("nothing told", after(), 0);
        doc.is("one, one", after(2, 3), 0);
        doc.is("three, three", after(3, 2, 3, 2, 3, 2), 0);
        for (int one = 0; one < 9; one++) {
            for (int other = 0; other < one; other++) {
                onlyBetween(one, other);
            }
        }
    }

    /** All other two CAPES have nothing between them. */
    private void onlyBetween(int one, int other) {
        CoastThree x = new CoastThree();
        x.passage(one, other, 3);
        int sum = 0;
        for (int a = 0; a < 9; a++) {
            for (int b = 0; b < a; b++) {
                sum += x.between(a, b);
            }
        }
        doc.is("but " + one + ", " + other, sum, x.between(other, one));
        doc.is(one + ", " + other, sum, 4);
    }

    private void passageCalls() {
        doc.promise(19, "One more PASSAGE: how many.");
        CoastThree x = new CoastThree();
        doc.is("the first", x.passage(0, 8, 0), 1);
        doc.is("just like it", x.passage(0, 8, 0), 2);
        doc.is("the other way", x.passage(8, 0, 3), 3);
        doc.promise(19, "BAD: capes (also one and itself), how;");
        doc.edges("passage(one, 4, 0)", BAD, 0, 8, c -> new CoastThree().passage(c, 4, 0), 1, 1);
        doc.edges("passage(4, other, 0)", BAD, 0, 8, c -> new CoastThree().passage(4, c, 0), 1, 1);
        doc.edges("passage(0, 1, how)", BAD, 0, 3, how -> new CoastThree().passage(0, 1, how), 1, 1);
        for (int c = 0; c < 9; c++) {
            doc.is("itself", x.passage(c, c, 0), BAD);
        }
        doc.is("none came", x.count(3), 3);
        doc.promise(19, "FULL.");
        for (int i = 3; i < 20; i++) {
            x.passage(1, 2, 3);
        }
        doc.is("no room", x.passage(1, 2, 3), FULL);
        doc.is("BAD first: itself", x.passage(1, 1, 3), BAD);
        doc.is("BAD first: how", x.passage(1, 2, 4), BAD);
        doc.promise(20, "What two CAPES have between them: 0 .. 5.");
        int[][] all = {{}, {1}, {0}, {0, 1}, {3}, {2}};
        for (int i = 0; i < all.length; i++) {
            doc.is("between", after(all[i]), i);
        }
        doc.promise(20, "BAD: also one and itself.");
        doc.edges("between(one, 4)", BAD, 0, 8, c -> new CoastThree().between(c, 4), 0, 0);
        doc.edges("between(4, other)", BAD, 0, 8, c -> new CoastThree().between(4, c), 0, 0);
        for (int c = -1; c < 10; c++) {
            doc.is("itself", x.between(c, c), BAD);
        }
    }

    /** NAMED MARKS of these days, the i-th with NAME i (mod 10), all put to cape 5. */
    private static CoastThree named(int... when) {
        CoastThree x = new CoastThree();
        for (int i = 0; i < when.length; i++) {
            x.mark(6, when[i], 0, 0);
            x.name(i, i % 10);
            x.put(i, 5);
        }
        return x;
    }

    private void names() {
        doc.term(3, "NAMES 0 .. 9 may be told of NAMED MARKS (one each; none, at first).");
        CoastThree x = new CoastThree();
        x.mark(6, 0, 0, 0);
        doc.is("none, at first", x.told(0, 9), NONE);
        for (int n = 0; n < 10; n++) {
            x.name(0, n);
            doc.is("one each", x.told(0, 9), n);
        }
        doc.edges("name(0, name)", BAD, 0, 9, n -> named(0).name(0, n), 0, 0);
        doc.term(3, "SAME are two NAMES, if some MARKS with them are put to one CAPE.");
        CoastThree y = named(0, 100, 200);
        doc.is("one CAPE", y.same(0, 1), 1);
        y.put(1, 8);
        doc.is("two CAPES", y.same(0, 1), 0);
        y.put(0, -1);
        y.put(1, -1);
        doc.is("both put to none", y.same(0, 1), 0);
        y.mark(6, 50, 0, 0);
        y.name(3, 0);
        y.put(3, 5);
        doc.is("by another MARK with it", y.same(0, 2), 1);
        y.name(3, 9);
        doc.is("its NAME told anew", y.same(0, 2), 0);
        doc.is("the new one", y.same(2, 9), 1);
        doc.term(3, "THE KEPT NAME of a CAPE: of its MARKS that have a NAME that of the one with the least DAY;");
        doc.is("the only one, DAY 99", named(299).kept(5), 0);
        doc.is("DAY 0 at last", named(3, 2, 1, 200).kept(5), 3);
        doc.is("by DAY, not by VOYAGE", named(99, 198, 297).kept(5), 2);
        CoastThree z = named(50, 60);
        z.mark(6, 1, 0, 0);
        z.put(2, 5);
        z.mark(0, 0, 0, 0);
        z.put(3, 5);
        doc.is("those without one don't count", z.kept(5), 0);
        doc.term(3, "of several the least number of a MARK.");
        doc.is("all on one DAY", named(207, 107, 7).kept(5), 0);
        doc.is("two on the least DAY", named(8, 207, 7).kept(5), 1);
    }

    private void nameCalls() {
        doc.promise(21, "Whether two NAMES are SAME: 1, 0.");
        doc.is("they are", named(0, 0).same(0, 1), 1);
        doc.is("the other way", named(0, 0).same(1, 0), 1);
        doc.is("one is not told", named(0, 0).same(0, 9), 0);
        doc.is("none is told", new CoastThree().same(0, 9), 0);
        doc.promise(21, "BAD: also one and itself.");
        doc.edges("same(one, 5)", BAD, 0, 9, n -> new CoastThree().same(n, 5), 0, 0);
        doc.edges("same(5, other)", BAD, 0, 9, n -> new CoastThree().same(5, n), 0, 0);
        for (int n = -1; n < 11; n++) {
            doc.is("itself", named(0, 0).same(n, n), BAD);
        }
        doc.promise(22, "THE KEPT NAME of a CAPE.");
        CoastThree x = named(0);
        doc.is("cape 5", x.kept(5), 0);
        x.put(0, 0);
        doc.is("cape 0", x.kept(0), 0);
        x.put(0, 8);
        doc.is("cape 8", x.kept(8), 0);
        doc.promise(22, "BAD;");
        doc.edges("kept(cape)", BAD, 0, 8, c -> x.kept(c), NONE, 0);
        doc.promise(22, "NONE.");
        doc.is("not SEEN", x.kept(5), NONE);
        doc.is("no MARK with a NAME", ashore(3, 5).kept(3), NONE);
        CoastThree y = new CoastThree();
        y.mark(6, 0, 0, 0);
        y.put(0, 3);
        doc.is("a NAMED one without a NAME", y.kept(3), NONE);
    }
}
