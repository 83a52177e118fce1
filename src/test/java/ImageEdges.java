/** Sentences on numbers that wait, images and counts: terms 5, promises 43 to 47. */
final class ImageEdges {
    private static final int BAD = CoastThree.BAD, NO = CoastThree.NO, FULL = CoastThree.FULL, NONE = CoastThree.NONE;
    private final Document doc;

    private ImageEdges(Document document) {
        doc = document;
    }

    static void all(Document document) {
        ImageEdges edges = new ImageEdges(document);
        edges.allBut();
        edges.goneMarks();
        edges.chosenAgain();
        edges.again();
        edges.sights();
        edges.tell();
        edges.check();
        edges.checkRefused();
        edges.keepAndBack();
        edges.count();
    }

    private void allBut() {
        doc.term(5, "AN IMAGE keeps all but SHEETS, SLOTS, numbers that wait, THE TAPE;");
        CoastThree x = new CoastThree();
        x.keep();
        x.sheet(0, 0, 2);
        x.write(0, 1, 6);
        x.lay(3, 3, 17);
        x.tell(5);
        Tape.put(x, "log 0 d");
        x.back();
        doc.is("the SLOT", x.rest(3, 10), 7);
        x.lay(0, 2, 0);
        doc.is("the SHEET", x.item(0, 1), 6);
        doc.is("numbers that wait", x.count(6), 1);
        doc.is("THE TAPE", x.count(7), 7);
        doc.is("as it was", x.law(), 0);
        x.back();
        doc.is("the TEXT goes", x.count(2), 0);
        x.mark(0, 0, 0, 0);
        x.passage(0, 1, 0);
        x.choose(0);
        x.survey(0, 0);
        x.set(0, 0, 9);
        x.seed(7);
        x.back();
        int[] counts = {0, 0, 0, 0, 0, 0, 1, 0, 1};
        for (int what = 0; what < 9; what++) {
            doc.is("count(" + what + ")", x.count(what), counts[what]);
        }
        x.mark(3, 0, 0, 0);
        doc.is("the CLOCK is not SET", x.told(0, 12), 0);
        doc.is("no PASSAGE", x.between(0, 1), 0);
        doc.is("put to none, told for none", x.choose(0), 1);
        doc.is("not surveyed", x.survey(0, 5), NONE);
    }

    /** What was told of MARKS that are gone is asked for no more. */
    private void goneMarks() {
        doc.term(5, "all can become as it is");
        CoastThree x = new CoastThree();
        x.survey(0, 100);
        x.keep();
        for (int i = 0; i < 4; i++) {
            x.mark(i < 2 ? 6 : 3, 0, 100 + 300 * i, 0);
            x.put(i, 0);
            x.name(i, i);
        }
        doc.is("two NAMES of one CAPE", x.same(0, 1), 1);
        x.back();
        doc.is("same", x.same(0, 1), 0);
        doc.is("kept", x.kept(0), NONE);
        doc.is("cape", x.cape(0, 0), 0);
        doc.is("capes", x.capes(0), 0);
        doc.is("clock", x.clock(0, 0, 0), 101);
        doc.is("misses", x.misses(0, 1), 0);
        doc.is("best", x.best(), NONE);
        doc.is("put to a CAPE", x.count(1), 0);
        doc.is("held", x.held(), 0);
        x.mark(6, 0, 50, 0);
        doc.is("a new one is put to none", x.told(0, 5), NONE);
        doc.is("a new one has no NAME", x.told(0, 9), NONE);
        doc.is("there is one", x.cape(0, 0), 0);
    }

    private void chosenAgain() {
        doc.term(5, "(again and again).");
        CoastThree x = new CoastThree();
        for (int i = 0; i < 4; i++) {
            x.mark(0, i % 2 * 100, 100, 0);
        }
        x.choose(2);
        x.choose(3);
        x.choose(1);
        x.keep();
        for (int round = 0; round < 3; round++) {
            x.clear();
            x.choose(round % 2 * 2);
            x.choose(1);
            x.choose(3);
            doc.is("told anew", x.match(0, 1, 0), 1);
            x.back();
            doc.is("told as before", x.match(0, 1, 0), 3);
            doc.is("which", x.match(1, 0, 0), 2);
            doc.is("how many", x.count(4), 3);
            doc.is("it is told", x.choose(2), NO);
        }
    }

    private void again() {
        doc.term(5, "all can become as it is (again and again).");
        CoastThree x = new CoastThree();
        x.mark(6, 0, 0, 0);
        x.name(0, 3);
        x.put(0, 8);
        x.set(0, 0, 9);
        Tape.law(x, "log 0 11");
        x.keep();
        for (int round = 0; round < 3; round++) {
            x.name(0, 4 + round);
            x.put(0, round);
            x.set(0, round, round);
            x.mark(0, 0, 0, 0);
            Tape.law(x, "log 0 " + (22 + round));
            doc.is("a new law", x.told(0, 10), 22 + round);
            x.back();
            doc.is("its NAME", x.told(0, 9), 3);
            doc.is("its CAPE", x.told(0, 5), 8);
            doc.is("its WATCH", x.told(0, 12), 9);
            doc.is("its LOG", x.told(0, 10), 11);
            doc.is("how many MARKS", x.count(0), 1);
            doc.is("how many TEXTS", x.count(2), 1);
        }
        for (int i = 1; i < 24; i++) {
            doc.is("room for 24 again", x.mark(0, 0, 0, 0), i);
        }
        doc.is("not for more", x.mark(0, 0, 0, 0), FULL);
        x.put(0, 2);
        x.keep();
        x.put(0, 3);
        x.back();
        doc.is("as THE IMAGE that was kept last", x.told(0, 5), 2);
    }

    /** Three CAPES at 100, 200, 300; from z = 1 on, by 5, they are seen as these. */
    private static final int[] SEEN = {102, 196, 304, 102, 200, 305};

    private static CoastThree surveyed() {
        CoastThree x = new CoastThree();
        x.survey(8, 300);
        x.survey(0, 100);
        x.survey(5, 200);
        x.keep();
        return x;
    }

    private static void tell(CoastThree x, int many, int... numbers) {
        for (int i = 0; i < many; i++) {
            x.tell(numbers[i % numbers.length]);
        }
    }

    private void sights() {
        doc.term(5, "THE SIGHTS TOLD: what is seen in n SAILINGS by s from THE IMAGE on, one behind the other (60 numbers at most).");
        CoastThree x = surveyed();
        tell(x, 6, SEEN);
        doc.is("two SAILINGS", x.check(2, 5), 0);
        tell(x, 3, SEEN);
        doc.is("one, from THE IMAGE again", x.check(1, 5), 0);
        x.survey(0, 7);
        x.survey(1, 8);
        x.seed(9);
        tell(x, 6, SEEN);
        doc.is("whatever is told since", x.check(2, 5), 0);
        doc.is("z stays", x.count(8), 9);
        tell(x, 60, 100, 200, 300);
        doc.is("60", x.check(20, 0), 0);
        doc.is("z of THE IMAGE stays", x.back() + x.count(8), 1);
    }

    private void tell() {
        doc.promise(43, "One more number waits: how many.");
        CoastThree x = new CoastThree();
        for (int i = 1; i <= 60; i++) {
            doc.is("number " + i, x.tell(i % 2 == 0 ? Integer.MIN_VALUE : BAD), i);
        }
        doc.promise(43, "FULL: 60 wait.");
        doc.is("the 61st", x.tell(0), FULL);
        doc.is("60 do", x.count(6), 60);
        x.check(0, 0);
        doc.is("room again", x.tell(0), 1);
    }

    private void check() {
        doc.promise(44, "The numbers that wait (none do then, whatever is answered) are THE SIGHTS TOLD of n (1 .. 20) SAILINGS by s: 0; else 1 "
                + "and how many stand right ahead of the first that is not (or is missing, or one too many).");
        CoastThree x = surveyed();
        for (int right = 0; right < 6; right++) {
            tell(x, right, SEEN);
            doc.is("missing behind " + right, x.check(2, 5), 1 + right);
            doc.is("none wait", x.count(6), 0);
            tell(x, right, SEEN);
            tell(x, 1, SEEN[right] + 1);
            tell(x, 5 - right, 100);
            doc.is("not right behind " + right, x.check(2, 5), 1 + right);
        }
        tell(x, 6, SEEN);
        doc.is("all six", x.check(2, 5), 0);
        doc.is("none wait then", x.count(6), 0);
        tell(x, 4, SEEN);
        doc.is("what waited before is gone", x.check(2, 5), 5);
        tell(x, 6, SEEN);
        tell(x, 1, 0);
        doc.is("one too many", x.check(2, 5), 7);
        tell(x, 6, SEEN);
        doc.is("three too many", x.check(1, 5), 4);
        doc.is("none told", x.check(20, 200), 1);
        CoastThree y = new CoastThree();
        y.keep();
        doc.is("none to be told", y.check(20, 200), 0);
        y.tell(0);
        doc.is("none to be told, but one was", y.check(1, 0), 1);
        tell(y, 60, 0);
        doc.is("none to be told, but 60 were", y.check(1, 0), 1);
        doc.edges("check(n, 5)", BAD, 1, 20, n -> surveyed().check(n, 5), 1, 1);
        doc.edges("check(1, s)", BAD, 0, 200, s -> surveyed().check(1, s), 1, 1);
    }

    private void checkRefused() {
        doc.promise(44, "BAD;");
        CoastThree x = surveyed();
        int[][] bad = {{0, 0}, {21, 0}, {1, -1}, {1, 201}, {0, 201}};
        for (int[] b : bad) {
            x.tell(100);
            doc.is("check(" + b[0] + ", " + b[1] + ")", x.check(b[0], b[1]), BAD);
            doc.is("none wait", x.count(6), 0);
            doc.is("ahead of NO", new CoastThree().check(b[0], b[1]), BAD);
        }
        doc.promise(44, "NO: there is no IMAGE;");
        CoastThree y = new CoastThree();
        for (int c = 0; c < 9; c++) {
            y.survey(c, c);
        }
        y.tell(0);
        doc.is("check(20, 0)", y.check(20, 0), NO);
        doc.is("none wait", y.count(6), 0);
        doc.promise(44, "FULL: they are more than 60.");
        CoastThree z = new CoastThree();
        for (int c = 0; c < 9; c++) {
            z.survey(c, c);
            z.keep();
            int most = Math.min(20, 60 / (c + 1));
            z.tell(-1);
            doc.is(most + " of " + (c + 1), z.check(most, 0), 1);
            z.tell(0);
            doc.is(most + 1 + " of " + (c + 1), z.check(most + 1, 0), most < 20 ? FULL : BAD);
            doc.is("none wait", z.count(6), 0);
            doc.is("BAD first", z.check(20, 201), BAD);
        }
    }

    private void keepAndBack() {
        doc.promise(45, "AN IMAGE is kept: the number of MARKS.");
        CoastThree x = new CoastThree();
        doc.is("none", x.keep(), 0);
        for (int i = 1; i <= 24; i++) {
            x.mark(0, 0, 0, 0);
            doc.is("keep", x.keep(), i);
        }
        doc.promise(46, "All is as THE IMAGE: the number of MARKS.");
        doc.is("24", x.back(), 24);
        doc.is("24 again", x.back(), 24);
        CoastThree y = new CoastThree();
        y.keep();
        y.mark(0, 0, 0, 0);
        doc.is("none", y.back(), 0);
        doc.is("no MARK", y.told(0, 0), BAD);
        doc.promise(46, "NO: there is none.");
        CoastThree z = new CoastThree();
        z.mark(0, 0, 0, 0);
        doc.is("never kept", z.back(), NO);
        doc.is("it is as it was", z.count(0), 1);
        z.keep();
        doc.is("kept", z.back(), 1);
    }

    private void count() {
        doc.promise(47, "How many: 0 MARKS, 1 that are put to a CAPE, 2 TEXTS, 3 PASSAGES, 4 told for PAIRS, 5 CAPES surveyed, 6 numbers that wait, "
                + "7 bytes of THE TAPE, 8 z.");
        CoastThree x = new CoastThree();
        int[] first = {0, 0, 0, 0, 0, 0, 0, 0, 1};
        for (int what = 0; what < 9; what++) {
            doc.is("count(" + what + ") at first", x.count(what), first[what]);
        }
        for (int i = 0; i < 24; i++) {
            x.mark(0, i % 3 * 100, 0, 0);
            x.put(i, i % 9);
            x.choose(i);
            x.passage(0, 1, 0);
        }
        for (int i = 0; i < 14; i++) {
            Tape.law(x, "log 0 1");
        }
        for (int i = 0; i < 60; i++) {
            x.tell(i);
            x.survey(i % 9, 0);
            x.feed(0, 0, 0);
        }
        x.seed(BAD);
        int[] full = {24, 24, 14, 20, 15, 9, 60, 96, BAD};
        for (int what = 0; what < 9; what++) {
            doc.is("count(" + what + ") when all is full", x.count(what), full[what]);
        }
        x.put(0, -1);
        doc.is("one put to none", x.count(1), 23);
        doc.promise(47, "BAD.");
        doc.edges("count(what)", BAD, 0, 8, what -> new CoastThree().count(what), 0, 1);
    }
}
