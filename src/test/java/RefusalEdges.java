import java.util.List;
import java.util.function.ToIntFunction;

/** Sentences ahead of the parts of the terms: what is cut, which refusal comes first, what a refused call changes. */
final class RefusalEdges {
    private static final int BAD = CoastThree.BAD, NO = CoastThree.NO, FULL = CoastThree.FULL, NONE = CoastThree.NONE;
    private static final int NOTHING = CoastThree.NOTHING, KIND = CoastThree.KIND, INDEX = CoastThree.INDEX, SIZE = CoastThree.SIZE;
    private static final Whole FULLY = new Whole(true), HALF = new Whole(false);

    private record Refusal(String call, int want, ToIntFunction<CoastThree> ask) {
    }

    private final Document doc;

    private RefusalEdges(Document document) {
        doc = document;
    }

    static void all(Document document) {
        RefusalEdges edges = new RefusalEdges(document);
        edges.cut();
        edges.there();
        edges.order();
        edges.nothingChanges();
        edges.theTape();
        edges.theNumbers();
    }

    private void cut() {
        doc.term(0, "All numbers are whole; / cuts towards 0.");
        CoastThree x = new CoastThree();
        x.mark(4, 100, 5, -19);
        doc.is("OFF by 10", x.told(0, 6), 4);
        x.mark(5, 100, 0, -90);
        doc.is("by 5, times 5", x.told(1, 6), -5);
        Tape.law(x, "needle 1 (0-7)/2");
        doc.is("a law", x.told(0, 11), -3);
        Tape.law(x, "needle 1 7/(0-2)");
        doc.is("by what is below 0", x.told(0, 11), -3);
        x.sheet(0, 0, 3);
        x.write(0, 0, -5);
        x.smooth(0);
        x.lay(0, 2, 0);
        doc.is("a SHEET", x.item(0, 1), -1);
        x.lay(0, 3, -7);
        doc.is("the rest", x.rest(0, 2), -1);
    }

    private void there() {
        doc.term(0, "NONE: there is none.");
        CoastThree x = new CoastThree();
        doc.is("next()", x.next(), NONE);
        doc.is("best()", x.best(), NONE);
        doc.is("why(0, 0)", x.why(0, 0), NONE);
        doc.is("kept(0)", x.kept(0), NONE);
        doc.is("cape(0, 1)", x.cape(0, 1), NONE);
        doc.is("survey(0, 0)", x.survey(0, 0), NONE);
        x.mark(6, 0, 0, 0);
        doc.is("told(0, 5)", x.told(0, 5), NONE);
        doc.is("told(0, 9)", x.told(0, 9), NONE);
        doc.is("put(0, 0)", x.put(0, 0), NONE);
        doc.is("name(0, 0)", x.name(0, 0), NONE);
        x.choose(0);
        doc.is("match(0, 1, 0)", x.match(0, 1, 0), NONE);
        x.sheet(0, 0, 0);
        doc.is("from(0)", x.from(0), NONE);
    }

    /** Calls that more than one refusal fits: those of an object where all is full. */
    private static List<Refusal> several() {
        return List.of(
                new Refusal("mark(8, ..): BAD, FULL", BAD, x -> x.mark(8, 0, 0, 0)),
                new Refusal("as(0, 8): BAD, KIND", BAD, x -> x.as(0, 8)),
                new Refusal("name(2, 10): BAD, KIND", BAD, x -> x.name(2, 10)),
                new Refusal("cape(7, 8): BAD, NONE", BAD, x -> x.cape(7, 8)),
                new Refusal("choose(0): NO, FULL", NO, x -> x.choose(0)),
                new Refusal("passage(0, 0, 0): BAD, FULL", BAD, x -> x.passage(0, 0, 0)),
                new Refusal("changes(4, 3): BAD, NOTHING", BAD, x -> x.changes(4, 3)),
                new Refusal("changes(3, 1): NOTHING, KIND", NOTHING, x -> x.changes(3, 1)),
                new Refusal("court(7, 100, ..): BAD, NO", BAD, x -> x.court(7, 100, 0, 0)),
                new Refusal("sheet(4, 0, -1): BAD, SIZE", BAD, x -> x.sheet(4, 0, -1)),
                new Refusal("sheet(0, 2, -1): BAD, SIZE", BAD, x -> x.sheet(0, 2, -1)),
                new Refusal("write(3, 99, ..): NOTHING, INDEX", NOTHING, x -> x.write(3, 99, 0)),
                new Refusal("write(1, 3, 100000): INDEX, BAD", INDEX, x -> x.write(1, 3, 100000)),
                new Refusal("log(3, 300): BAD, NOTHING", BAD, x -> x.log(3, 300)),
                new Refusal("log(0, 98): BAD, FULL", BAD, x -> x.log(0, 98)),
                new Refusal("copy(4, .., 3, ..): BAD, NOTHING", BAD, x -> x.copy(4, 0, 3, 0, 0)),
                new Refusal("copy(3, .., 1, ..): NOTHING, KIND", NOTHING, x -> x.copy(3, 0, 1, 0, 0)),
                new Refusal("copy(0, 9, 1, ..): KIND, INDEX", KIND, x -> x.copy(0, 9, 1, 0, 0)),
                new Refusal("lay(5, 2, 3): BAD, NOTHING", BAD, x -> x.lay(5, 2, 3)),
                new Refusal("ask(0, 8): BAD, NOTHING", BAD, x -> x.ask(0, 8)),
                new Refusal("ask(3, 8): BAD, KIND", BAD, x -> x.ask(3, 8)),
                new Refusal("item(0, 99): NOTHING, INDEX", NOTHING, x -> x.item(0, 99)),
                new Refusal("item(1, 99): KIND, INDEX", KIND, x -> x.item(1, 99)),
                new Refusal("rest(0, 0): NOTHING, NO", NOTHING, x -> x.rest(0, 0)),
                new Refusal("rest(1, 0): KIND, NO", KIND, x -> x.rest(1, 0)),
                new Refusal("rest(5, 0): BAD, NO", BAD, x -> x.rest(5, 0)),
                new Refusal("check(20, 201): BAD, FULL", BAD, x -> x.check(20, 201)));
    }

    private void order() {
        doc.term(0, "A call that is refused answers one of BAD, NO, FULL, or a FINDING, of several the one that stands first with it,");
        for (Refusal r : several()) {
            doc.is(r.call, r.ask.applyAsInt(FULLY.made()), r.want);
        }
        doc.is("check(0, 0) without an IMAGE: BAD, NO", new CoastThree().check(0, 0), BAD);
        CoastThree x = FULLY.made();
        doc.is("law(): a FAULT, FULL", faulty(x), -106);
    }

    private static int faulty(CoastThree x) {
        x.trim(0);
        Whole.feed(x, "log 0 ??????");
        return x.law();
    }

    /** Refused whether all is full or not. */
    private static List<Refusal> marksAndLaws(Whole w) {
        int marks = w.marks();
        int texts = w.texts();
        return List.of(
                new Refusal("mark: kind", BAD, x -> x.mark(8, 0, 0, 0)),
                new Refusal("mark: when", BAD, x -> x.mark(0, 300, 0, 0)),
                new Refusal("mark: at", BAD, x -> x.mark(0, 0, 1000, 0)),
                new Refusal("mark: off", BAD, x -> x.mark(0, 0, 0, 100)),
                new Refusal("told: mark", BAD, x -> x.told(marks, 0)),
                new Refusal("told: what", BAD, x -> x.told(0, 13)),
                new Refusal("as: mark", BAD, x -> x.as(marks, 0)),
                new Refusal("as: kind", BAD, x -> x.as(0, -1)),
                new Refusal("as: KIND", KIND, x -> x.as(0, 7)),
                new Refusal("put: mark", BAD, x -> x.put(marks, 0)),
                new Refusal("put: cape 9", BAD, x -> x.put(0, 9)),
                new Refusal("put: cape -2", BAD, x -> x.put(0, -2)),
                new Refusal("name: mark", BAD, x -> x.name(marks, 0)),
                new Refusal("name: name", BAD, x -> x.name(0, 10)),
                new Refusal("name: KIND", KIND, x -> x.name(2, 1)),
                new Refusal("trim: above", BAD, x -> x.trim(97)),
                new Refusal("trim: below", BAD, x -> x.trim(-1)),
                new Refusal("of: text", BAD, x -> x.of(texts, 0)),
                new Refusal("of: what", BAD, x -> x.of(0, 3)),
                new Refusal("why: voyage", BAD, x -> x.why(3, 0)),
                new Refusal("why: key", BAD, x -> x.why(0, 3)));
    }

    private static List<Refusal> capes(Whole w) {
        int marks = w.marks();
        return List.of(
                new Refusal("cape: cape", BAD, x -> x.cape(9, 0)),
                new Refusal("cape: what", BAD, x -> x.cape(0, 8)),
                new Refusal("capes: what", BAD, x -> x.capes(3)),
                new Refusal("choose: mark", BAD, x -> x.choose(marks)),
                new Refusal("choose: NO", NO, x -> x.choose(1)),
                new Refusal("match: itself", BAD, x -> x.match(1, 1, -2)),
                new Refusal("match: voyage", BAD, x -> x.match(3, 1, -2)),
                new Refusal("match: what", BAD, x -> x.match(0, 1, 5)),
                new Refusal("join: itself", BAD, x -> x.join(1, 1)),
                new Refusal("join: one", BAD, x -> x.join(3, 1)),
                new Refusal("join: other", BAD, x -> x.join(1, -1)),
                new Refusal("passage: itself", BAD, x -> x.passage(1, 1, 0)),
                new Refusal("passage: one", BAD, x -> x.passage(9, 1, 0)),
                new Refusal("passage: other", BAD, x -> x.passage(1, -1, 0)),
                new Refusal("passage: how", BAD, x -> x.passage(0, 1, 4)),
                new Refusal("between: itself", BAD, x -> x.between(1, 1)),
                new Refusal("between: cape", BAD, x -> x.between(1, 9)),
                new Refusal("same: itself", BAD, x -> x.same(1, 1)),
                new Refusal("same: name", BAD, x -> x.same(1, 10)),
                new Refusal("kept: cape", BAD, x -> x.kept(9)));
    }

    private static List<Refusal> clocksAndTowns() {
        return List.of(
                new Refusal("set: voyage", BAD, x -> x.set(3, 0, 0)),
                new Refusal("set: day", BAD, x -> x.set(0, 100, 0)),
                new Refusal("set: by", BAD, x -> x.set(0, 0, -201)),
                new Refusal("clock: voyage", BAD, x -> x.clock(3, 0, 0)),
                new Refusal("clock: day", BAD, x -> x.clock(0, 100, 0)),
                new Refusal("clock: what", BAD, x -> x.clock(0, 0, 3)),
                new Refusal("smooth: sheet", BAD, x -> x.smooth(4)),
                new Refusal("smooth: NOTHING", NOTHING, x -> x.smooth(3)),
                new Refusal("changes: sheet", BAD, x -> x.changes(0, 4)),
                new Refusal("changes: NOTHING", NOTHING, x -> x.changes(0, 3)),
                new Refusal("changes: KIND", KIND, x -> x.changes(0, 1)),
                new Refusal("from: sheet", BAD, x -> x.from(4)),
                new Refusal("from: NOTHING", NOTHING, x -> x.from(3)),
                new Refusal("court: cape", BAD, x -> x.court(9, 0, 0, 0)),
                new Refusal("court: n", BAD, x -> x.court(0, -100, 0, 0)),
                new Refusal("court: y", BAD, x -> x.court(0, 0, 5, 4)),
                new Refusal("court: NO, not SEEN", NO, x -> x.court(7, 0, 0, 0)),
                new Refusal("court: NO, does not HOLD", NO, x -> x.court(8, 0, 0, 0)),
                new Refusal("survey: cape", BAD, x -> x.survey(9, 0)),
                new Refusal("survey: place", BAD, x -> x.survey(0, 1000)),
                new Refusal("misses: voyage", BAD, x -> x.misses(3, 0)),
                new Refusal("misses: what", BAD, x -> x.misses(0, 2)),
                new Refusal("share: n", BAD, x -> x.share(101, 0, 0)),
                new Refusal("share: s", BAD, x -> x.share(1, 201, 0)),
                new Refusal("share: t", BAD, x -> x.share(1, 0, 201)));
    }

    private static List<Refusal> sheets() {
        return List.of(
                new Refusal("sheet: sheet", BAD, x -> x.sheet(4, 0, 1)),
                new Refusal("sheet: sort", BAD, x -> x.sheet(0, -2, 1)),
                new Refusal("sheet: n", BAD, x -> x.sheet(0, 0, 25)),
                new Refusal("sheet: SIZE", SIZE, x -> x.sheet(0, 0, -1)),
                new Refusal("write: sheet", BAD, x -> x.write(4, 0, 1)),
                new Refusal("write: NOTHING", NOTHING, x -> x.write(3, 0, 1)),
                new Refusal("write: INDEX", INDEX, x -> x.write(0, 3, 1)),
                new Refusal("write: v", BAD, x -> x.write(1, 1, 100000)),
                new Refusal("log: sheet", BAD, x -> x.log(4, 0)),
                new Refusal("log: when", BAD, x -> x.log(2, 300)),
                new Refusal("log: NOTHING", NOTHING, x -> x.log(3, 0)),
                new Refusal("log: the last DAY", BAD, x -> x.log(2, 198)),
                new Refusal("copy: from", BAD, x -> x.copy(4, 0, 0, 0, 1)),
                new Refusal("copy: to", BAD, x -> x.copy(0, 0, -1, 0, 1)),
                new Refusal("copy: NOTHING", NOTHING, x -> x.copy(0, 0, 3, 0, 1)),
                new Refusal("copy: KIND", KIND, x -> x.copy(0, 0, 1, 0, 1)),
                new Refusal("copy: INDEX, from", INDEX, x -> x.copy(0, 1, 2, 0, 3)),
                new Refusal("copy: INDEX, to", INDEX, x -> x.copy(0, 0, 2, 1, 3)));
    }

    private static List<Refusal> slotsAndRows(Whole w) {
        int marks = w.marks();
        return List.of(
                new Refusal("lay: slot", BAD, x -> x.lay(5, 0, 0)),
                new Refusal("lay: thing", BAD, x -> x.lay(1, 4, 0)),
                new Refusal("lay: no MARK", BAD, x -> x.lay(2, 1, marks)),
                new Refusal("lay: no SHEET", BAD, x -> x.lay(3, 2, 4)),
                new Refusal("lay: NOTHING", NOTHING, x -> x.lay(3, 2, 3)),
                new Refusal("ask: slot", BAD, x -> x.ask(5, 0)),
                new Refusal("ask: kind", BAD, x -> x.ask(1, 8)),
                new Refusal("ask: NOTHING", NOTHING, x -> x.ask(0, 0)),
                new Refusal("ask: no MARK", KIND, x -> x.ask(2, 0)),
                new Refusal("ask: not of that KIND", KIND, x -> x.ask(1, 5)),
                new Refusal("item: slot", BAD, x -> x.item(-1, 0)),
                new Refusal("item: NOTHING", NOTHING, x -> x.item(4, 0)),
                new Refusal("item: no SHEET", KIND, x -> x.item(3, 0)),
                new Refusal("item: INDEX", INDEX, x -> x.item(2, 3)),
                new Refusal("item: NO NUMBER", KIND, x -> x.item(2, 0)),
                new Refusal("rest: slot", BAD, x -> x.rest(5, 1)),
                new Refusal("rest: NOTHING", NOTHING, x -> x.rest(0, 1)),
                new Refusal("rest: no number", KIND, x -> x.rest(1, 1)),
                new Refusal("rest: NO", NO, x -> x.rest(3, 0)),
                new Refusal("count: above", BAD, x -> x.count(9)),
                new Refusal("count: below", BAD, x -> x.count(-1)));
    }

    private static List<Refusal> whenFull() {
        return List.of(
                new Refusal("mark", FULL, x -> x.mark(0, 0, 0, 0)),
                new Refusal("feed", FULL, x -> x.feed(0, 0, 0)),
                new Refusal("choose", FULL, x -> x.choose(15)),
                new Refusal("passage", FULL, x -> x.passage(0, 1, 0)),
                new Refusal("log", FULL, x -> x.log(2, 0)),
                new Refusal("tell", FULL, x -> x.tell(310)));
    }

    private void nothingChanges() {
        doc.term(0, "and changes nothing (but the tape and the numbers that wait, where told).");
        for (Whole w : List.of(FULLY, HALF)) {
            List<Integer> was = w.asked(w.made());
            unchanged(w, was, marksAndLaws(w));
            unchanged(w, was, capes(w));
            unchanged(w, was, clocksAndTowns());
            unchanged(w, was, sheets());
            unchanged(w, was, slotsAndRows(w));
        }
        unchanged(FULLY, FULLY.asked(FULLY.made()), whenFull());
        CoastThree x = new CoastThree();
        x.mark(0, 0, 0, 0);
        doc.is("back()", x.back(), NO);
        doc.is("the MARK", x.count(0), 1);
    }

    private void unchanged(Whole w, List<Integer> was, List<Refusal> refusals) {
        for (Refusal r : refusals) {
            CoastThree x = w.made();
            doc.is(r.call, r.ask.applyAsInt(x), r.want);
            alike(r.call, w.asked(x), was);
        }
    }

    private void alike(String call, List<Integer> got, List<Integer> want) {
        doc.is(call + " leaves as many answers", got.size(), want.size());
        for (int i = 0; i < want.size(); i++) {
            doc.is(call + " leaves answer " + i, got.get(i), want.get(i));
        }
    }

    /** A law that is refused leaves all but the tape: as if that had been trimmed to nothing. */
    private void theTape() {
        for (Whole w : List.of(FULLY, HALF)) {
            CoastThree trimmed = w.made();
            trimmed.trim(0);
            List<Integer> want = w.asked(trimmed);
            CoastThree x = w.made();
            x.trim(12);
            doc.is("law() with a FAULT", x.law(), -112);
            alike("law()", w.asked(x), want);
        }
        CoastThree trimmed = FULLY.made();
        trimmed.trim(0);
        CoastThree x = FULLY.made();
        x.trim(11);
        doc.is("law() without room", x.law(), FULL);
        alike("law()", FULLY.asked(x), FULLY.asked(trimmed));
    }

    /** A check that is refused leaves all but the numbers that wait: as one that is not refused does. */
    private void theNumbers() {
        for (Whole w : List.of(FULLY, HALF)) {
            CoastThree checked = w.made();
            checked.check(1, 0);
            List<Integer> want = w.asked(checked);
            CoastThree x = w.made();
            doc.is("check(21, 0)", x.check(21, 0), BAD);
            alike("check(21, 0)", w.asked(x), want);
            x = w.made();
            x.keep();
            checked = w.made();
            checked.keep();
            checked.check(1, 0);
            doc.is("check(20, 0) of five CAPES", x.check(20, 0), FULL);
            alike("check(20, 0)", w.asked(x), w.asked(checked));
        }
    }
}
