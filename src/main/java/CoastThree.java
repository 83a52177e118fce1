/**
 * A coast from three voyages, as ../shared/DOC.md promises it. The public methods look at what they
 * are given and refuse; what they refuse changes nothing. All rows are made with the object and used
 * again, so that no call makes anything new.
 */
public final class CoastThree {
    public static final int BAD = -1000000001, NO = -1000000002, FULL = -1000000003, NONE = -1000000005,
            NOTHING = -1000000011, KIND = -1000000012, INDEX = -1000000013, SIZE = -1000000014;

    private static final int VOYAGES = 3, DAYS = 100, LEAGUES = 1000, MOST_OFF = 99, CAPES = 9, NAMES = 10;
    private static final int MARKS = 24, TEXTS = 14, PASSAGES = 20, CHOSEN = 5, TAPE = 96, WAITING = 60;
    private static final int SHEETS = 4, PLACES = 24, SLOTS = 5, MOST_FLOAT = 99999;
    private static final int MOST_LEAN = 200, MOST_TOWN = 99, MOST_COURT = 1999;
    private static final int MOST_SAILINGS = 100, MOST_TOLD_SAILINGS = 20;

    private static final int RUN = 1, BEARING = 2, FIX = 3, DRAWN = 4, COPIED = 5, NAMED = 6, ASHORE = 7;
    /** The kind right above each kind; MARK, the highest, stands above itself. */
    private static final int[] ABOVE = {0, 0, 0, 0, 0, DRAWN, 0, DRAWN};

    private static final int KEYS = 3, LOG = 0, NEEDLE = 1, WATCH = 2;
    private static final int BY_SHIP = 0, WALKED = 1, DRAWN_SHUT = 2, DRAWN_OPEN = 3, HOWS = 4;
    private static final int MISSING = -1, FLOATS = 1;
    private static final int A_MARK = 1, A_SHEET = 2, A_NUMBER = 3, THINGS = 4;

    private final Reader reader = new Reader();
    private final Coast now;
    private final Coast image;
    private final Ends ends = new Ends();
    private final Match found = new Match();
    private final Settings settings = new Settings();
    private final Sheet[] sheets = new Sheet[SHEETS];
    private final Slot[] slots = new Slot[SLOTS];
    private final int[] costs = new int[PLACES + 1];
    private final int[] waiting = new int[WAITING];
    private int waitingCount = 0;
    private boolean hasImage = false;

    public CoastThree() {
        Text[] texts = new Text[TEXTS];
        for (int i = 0; i < TEXTS; i++) {
            texts[i] = new Text();
        }
        int[] stack = new int[TAPE];
        now = new Coast(texts, stack);
        image = new Coast(texts, stack);
        for (int i = 0; i < SHEETS; i++) {
            sheets[i] = new Sheet();
        }
        for (int i = 0; i < SLOTS; i++) {
            slots[i] = new Slot();
        }
    }

    // ---- marks

    public int mark(int kind, int when, int at, int off) {
        if (!isBelow(kind, ABOVE.length) || !isWhen(when) || !isBelow(at, LEAGUES)
                || !isWithin(off, -MOST_OFF, MOST_OFF)) {
            return BAD;
        }
        return now.markCount >= MARKS ? FULL : now.addMark(kind, when, at, off);
    }

    public int told(int mark, int what) {
        if (!isBelow(mark, now.markCount)) {
            return BAD;
        }
        Mark m = now.marks[mark];
        switch (what) {
            case 0: return m.kind;
            case 1: return m.voyage;
            case 2: return m.day;
            case 3: return m.at;
            case 4: return m.off;
            case 5: return m.cape;
            case 6: return now.saysOf(m);
            case 7: return m.span();
            case 8: return worthOf(m.kind);
            case 9: return m.name;
            case 10: return now.logOf(m);
            case 11: return now.needleOf(m);
            case 12: return now.watchOf(m);
            default: return BAD;
        }
    }

    public int as(int mark, int kind) {
        if (!isBelow(mark, now.markCount) || !isBelow(kind, ABOVE.length)) {
            return BAD;
        }
        Mark m = now.marks[mark];
        return isUnder(m.kind, kind) ? m.at : KIND;
    }

    public int put(int mark, int cape) {
        if (!isBelow(mark, now.markCount) || !isWithin(cape, -1, CAPES - 1)) {
            return BAD;
        }
        Mark m = now.marks[mark];
        int was = m.cape;
        m.cape = cape < 0 ? NONE : cape;
        return was;
    }

    public int name(int mark, int name) {
        if (!isBelow(mark, now.markCount) || !isBelow(name, NAMES)) {
            return BAD;
        }
        Mark m = now.marks[mark];
        if (!isUnder(m.kind, NAMED)) {
            return KIND;
        }
        int was = m.name;
        m.name = name;
        return was;
    }

    // ---- laws

    public int feed(int a, int b, int c) {
        if (reader.length + 12 > TAPE) {
            return FULL;
        }
        reader.take(a);
        reader.take(b);
        reader.take(c);
        return reader.length;
    }

    public int trim(int n) {
        if (!isWithin(n, 0, reader.length)) {
            return BAD;
        }
        reader.length = n;
        return n;
    }

    public int law() {
        boolean good = reader.readText();
        reader.length = 0;
        if (!good) {
            return -100 - reader.start;
        }
        if (now.textCount >= TEXTS) {
            return FULL;
        }
        now.texts[now.textCount].takeFrom(reader);
        now.textCount++;
        return now.textCount - 1;
    }

    public int of(int text, int what) {
        if (!isBelow(text, now.textCount)) {
            return BAD;
        }
        Text t = now.texts[text];
        switch (what) {
            case 0: return t.key;
            case 1: return t.voyage;
            case 2: return t.leaves;
            default: return BAD;
        }
    }

    public int why(int voyage, int key) {
        if (!isBelow(voyage, VOYAGES) || !isBelow(key, KEYS)) {
            return BAD;
        }
        return now.textFor(voyage, key);
    }

    // ---- capes

    public int cape(int cape, int what) {
        if (!isBelow(cape, CAPES) || !isWithin(what, 0, 7)) {
            return BAD;
        }
        ends.look(now, cape);
        if (!ends.areSeen() && isWithin(what, 1, 4)) {
            return NONE;
        }
        switch (what) {
            case 0: return ends.marks;
            case 1: return ends.least;
            case 2: return ends.most;
            case 3: return ends.width();
            case 4: return (ends.least + ends.most) / 2;
            case 5: return ends.hold() ? 1 : 0;
            case 6: return ends.worth;
            default: return ends.standOnOne() ? 1 : 0;
        }
    }

    public int capes(int what) {
        if (!isWithin(what, 0, 2)) {
            return BAD;
        }
        int bits = 0;
        for (int c = 0; c < CAPES; c++) {
            ends.look(now, c);
            boolean counts = what == 0 ? ends.areSeen() : what == 1 ? ends.hold() : ends.standOnOne();
            bits |= counts ? 1 << c : 0;
        }
        return bits;
    }

    public int next() {
        int widest = NONE;
        int width = -1;
        for (int c = 0; c < CAPES; c++) {
            ends.look(now, c);
            if (ends.hold() && ends.width() > width) {
                widest = c;
                width = ends.width();
            }
        }
        return widest;
    }

    public int choose(int mark) {
        if (!isBelow(mark, now.markCount)) {
            return BAD;
        }
        if (now.isChosen(mark)) {
            return NO;
        }
        int voyage = now.marks[mark].voyage;
        if (now.chosenCount[voyage] >= CHOSEN) {
            return FULL;
        }
        now.chosen[voyage * CHOSEN + now.chosenCount[voyage]] = mark;
        now.chosenCount[voyage]++;
        return now.chosenCount[voyage];
    }

    public int clear() {
        int were = now.chosenInAll();
        for (int v = 0; v < VOYAGES; v++) {
            now.chosenCount[v] = 0;
        }
        return were;
    }

    public int match(int one, int other, int what) {
        if (!areTwo(one, other, VOYAGES) || !isWithin(what, -2, now.chosenCount[one] - 1)) {
            return BAD;
        }
        found.find(now, one, other);
        if (what == -2) {
            return found.pairs;
        }
        return what == -1 ? found.sum : found.partners[what];
    }

    public int join(int one, int other) {
        if (!areTwo(one, other, VOYAGES)) {
            return BAD;
        }
        found.find(now, one, other);
        int moved = 0;
        for (int i = 0; i < now.chosenCount[one]; i++) {
            int cape = now.chosenMark(one, i).cape;
            int partner = found.partners[i];
            if (cape != NONE && partner != NONE && now.marks[partner].cape != cape) {
                now.marks[partner].cape = cape;
                moved++;
            }
        }
        return moved;
    }

    public int passage(int one, int other, int how) {
        if (!areTwo(one, other, CAPES) || !isBelow(how, HOWS)) {
            return BAD;
        }
        if (now.passageCount >= PASSAGES) {
            return FULL;
        }
        now.passages[now.passageCount] = passageCode(one, other, how);
        now.passageCount++;
        return now.passageCount;
    }

    public int between(int one, int other) {
        if (!areTwo(one, other, CAPES)) {
            return BAD;
        }
        boolean sailed = now.passagesOf(one, other, BY_SHIP) > 0;
        boolean walked = now.passagesOf(one, other, WALKED) > 0;
        if (sailed || walked) {
            return (sailed ? 2 : 0) + (walked ? 1 : 0);
        }
        int open = now.passagesOf(one, other, DRAWN_OPEN);
        int shut = now.passagesOf(one, other, DRAWN_SHUT);
        if (open == shut) {
            return 0;
        }
        return open > shut ? 4 : 5;
    }

    public int same(int one, int other) {
        if (!areTwo(one, other, NAMES)) {
            return BAD;
        }
        return (now.capesNamed(one) & now.capesNamed(other)) != 0 ? 1 : 0;
    }

    public int kept(int cape) {
        if (!isBelow(cape, CAPES)) {
            return BAD;
        }
        int name = NONE;
        int day = DAYS;
        for (int i = 0; i < now.markCount; i++) {
            Mark m = now.marks[i];
            if (m.cape == cape && m.name != NONE && m.day < day) {
                name = m.name;
                day = m.day;
            }
        }
        return name;
    }

    // ---- clocks, copies, towns, surveys

    public int set(int voyage, int day, int by) {
        if (!isBelow(voyage, VOYAGES) || !isBelow(day, DAYS) || !isWithin(by, -MOST_LEAN, MOST_LEAN)) {
            return BAD;
        }
        now.setDay[voyage] = day;
        now.setBy[voyage] = by;
        return 1;
    }

    public int clock(int voyage, int day, int what) {
        if (!isBelow(voyage, VOYAGES) || !isBelow(day, DAYS) || !isWithin(what, 0, 2)) {
            return BAD;
        }
        settings.prepare(now, voyage);
        settings.find(now, voyage, day);
        if (what == 0) {
            return settings.many;
        }
        return what == 1 ? settings.least : settings.greatest;
    }

    public int smooth(int sheet) {
        if (!isBelow(sheet, SHEETS)) {
            return BAD;
        }
        return sheets[sheet].isMissing() ? NOTHING : sheets[sheet].smoothen();
    }

    public int changes(int from, int to) {
        if (!isBelow(from, SHEETS) || !isBelow(to, SHEETS)) {
            return BAD;
        }
        Sheet a = sheets[from];
        Sheet b = sheets[to];
        if (a.isMissing() || b.isMissing()) {
            return NOTHING;
        }
        return a.sort != b.sort ? KIND : changesBetween(a, b);
    }

    public int from(int sheet) {
        if (!isBelow(sheet, SHEETS)) {
            return BAD;
        }
        Sheet made = sheets[sheet];
        if (made.isMissing()) {
            return NOTHING;
        }
        int nearest = NONE;
        int fewest = 0;
        for (int i = 0; i < SHEETS; i++) {
            if (i != sheet && sheets[i].sort == made.sort) {
                int many = changesBetween(sheets[i], made);
                if (nearest == NONE || many < fewest) {
                    nearest = i;
                    fewest = many;
                }
            }
        }
        return nearest;
    }

    public int court(int cape, int n, int x, int y) {
        if (!isBelow(cape, CAPES) || !isWithin(n, -MOST_TOWN, MOST_TOWN)
                || !isWithin(x, 0, MOST_COURT) || !isWithin(y, x, MOST_COURT)) {
            return BAD;
        }
        ends.look(now, cape);
        if (!ends.hold()) {
            return NO;
        }
        int least = ends.least + n;
        int most = ends.most + n;
        if (x <= least && most <= y) {
            return 2;
        }
        return most < x || y < least ? 0 : 1;
    }

    public int survey(int cape, int place) {
        if (!isBelow(cape, CAPES) || !isBelow(place, LEAGUES)) {
            return BAD;
        }
        int was = now.surveyed[cape];
        now.surveyed[cape] = place;
        return was;
    }

    public int held() {
        int bits = 0;
        for (int c = 0; c < CAPES; c++) {
            ends.look(now, c);
            if (now.surveyed[c] != NONE && ends.hold() && isWithin(now.surveyed[c], ends.least, ends.most)) {
                bits |= 1 << c;
            }
        }
        return bits;
    }

    public int misses(int voyage, int what) {
        if (!isBelow(voyage, VOYAGES) || !isWithin(what, 0, 1)) {
            return BAD;
        }
        return what == 0 ? now.missesOf(voyage) : now.missingMarksOf(voyage);
    }

    public int best() {
        int least = NONE;
        int miss = 0;
        for (int v = 0; v < VOYAGES; v++) {
            int many = now.missingMarksOf(v);
            if (many > 0) {
                int each = now.missesOf(v) / many;
                if (least == NONE || each < miss) {
                    least = v;
                    miss = each;
                }
            }
        }
        return least;
    }

    public int seed(int v) {
        int was = now.z;
        now.z = v;
        return was;
    }

    public int share(int n, int s, int t) {
        if (!isWithin(n, 1, MOST_SAILINGS) || !isWithin(s, 0, MOST_LEAN) || !isWithin(t, 0, MOST_LEAN)) {
            return BAD;
        }
        int near = 0;
        for (int i = 0; i < n; i++) {
            near += now.sailsWithin(s, t) ? 1 : 0;
        }
        return near;
    }

    // ---- sheets, slots

    public int sheet(int sheet, int sort, int n) {
        if (!isBelow(sheet, SHEETS) || !isWithin(sort, MISSING, FLOATS)) {
            return BAD;
        }
        int size = sort == MISSING ? 0 : n;
        if (size > PLACES) {
            return BAD;
        }
        if (size < 0) {
            return SIZE;
        }
        sheets[sheet].become(sort, size);
        return size;
    }

    public int write(int sheet, int place, int v) {
        if (!isBelow(sheet, SHEETS)) {
            return BAD;
        }
        Sheet s = sheets[sheet];
        if (s.isMissing()) {
            return NOTHING;
        }
        if (!isBelow(place, s.size)) {
            return INDEX;
        }
        if (s.sort == FLOATS && v != NONE && !isWithin(v, -MOST_FLOAT, MOST_FLOAT)) {
            return BAD;
        }
        s.row[place] = v;
        return 1;
    }

    public int log(int sheet, int when) {
        if (!isBelow(sheet, SHEETS) || !isWhen(when)) {
            return BAD;
        }
        Sheet s = sheets[sheet];
        if (s.isMissing()) {
            return NOTHING;
        }
        if (when % DAYS + s.size > DAYS) {
            return BAD;
        }
        int many = s.placesWithin(LEAGUES);
        if (now.markCount + many > MARKS) {
            return FULL;
        }
        for (int i = 0; i < s.size; i++) {
            if (isBelow(s.row[i], LEAGUES)) {
                now.addMark(0, when + i, s.row[i], 0);
            }
        }
        return many;
    }

    public int copy(int from, int place, int to, int at, int many) {
        if (!isBelow(from, SHEETS) || !isBelow(to, SHEETS)) {
            return BAD;
        }
        Sheet a = sheets[from];
        Sheet b = sheets[to];
        if (a.isMissing() || b.isMissing()) {
            return NOTHING;
        }
        if (a.sort != b.sort) {
            return KIND;
        }
        if (!a.hasPlaces(place, many) || !b.hasPlaces(at, many)) {
            return INDEX;
        }
        System.arraycopy(a.row, place, b.row, at, many);
        return many;
    }

    public int lay(int slot, int thing, int k) {
        if (!isBelow(slot, SLOTS) || !isBelow(thing, THINGS)) {
            return BAD;
        }
        if (thing == A_MARK && !isBelow(k, now.markCount) || thing == A_SHEET && !isBelow(k, SHEETS)) {
            return BAD;
        }
        if (thing == A_SHEET && sheets[k].isMissing()) {
            return NOTHING;
        }
        Slot s = slots[slot];
        int was = s.thing;
        s.thing = thing;
        if (thing == A_MARK) {
            s.kind = now.marks[k].kind;
        } else if (thing == A_SHEET) {
            s.sheet.takeFrom(sheets[k]);
        } else {
            s.number = k;
        }
        return was;
    }

    public int ask(int slot, int kind) {
        int lack = isBelow(kind, ABOVE.length) ? lackOf(slot, A_MARK) : BAD;
        if (lack != 0) {
            return lack;
        }
        int own = slots[slot].kind;
        return isUnder(own, kind) ? worthOf(own) : KIND;
    }

    public int item(int slot, int place) {
        int lack = lackOf(slot, A_SHEET);
        if (lack != 0) {
            return lack;
        }
        Sheet s = slots[slot].sheet;
        if (!isBelow(place, s.size)) {
            return INDEX;
        }
        return s.isFog(s.row[place]) ? KIND : s.row[place];
    }

    public int rest(int slot, int n) {
        int lack = lackOf(slot, A_NUMBER);
        if (lack != 0) {
            return lack;
        }
        return n == 0 ? NO : slots[slot].number % n;
    }

    /** Why a slot can't be asked for such a thing: a refusal, or 0 if it can. */
    private int lackOf(int slot, int thing) {
        if (!isBelow(slot, SLOTS)) {
            return BAD;
        }
        if (slots[slot].thing == 0) {
            return NOTHING;
        }
        return slots[slot].thing == thing ? 0 : KIND;
    }

    // ---- rows, images

    public int tell(int v) {
        if (waitingCount >= WAITING) {
            return FULL;
        }
        waiting[waitingCount] = v;
        waitingCount++;
        return waitingCount;
    }

    public int check(int n, int s) {
        int many = waitingCount;
        waitingCount = 0;
        if (!isWithin(n, 1, MOST_TOLD_SAILINGS) || !isWithin(s, 0, MOST_LEAN)) {
            return BAD;
        }
        if (!hasImage) {
            return NO;
        }
        int sights = n * image.surveyedInAll();
        if (sights > WAITING) {
            return FULL;
        }
        int right = image.rightSights(waiting, many, n, s);
        return right == sights && right == many ? 0 : 1 + right;
    }

    public int keep() {
        image.takeFrom(now);
        hasImage = true;
        return now.markCount;
    }

    public int back() {
        if (!hasImage) {
            return NO;
        }
        now.takeFrom(image);
        return now.markCount;
    }

    public int count(int what) {
        switch (what) {
            case 0: return now.markCount;
            case 1: return now.marksPut();
            case 2: return now.textCount;
            case 3: return now.passageCount;
            case 4: return now.chosenInAll();
            case 5: return now.surveyedInAll();
            case 6: return waitingCount;
            case 7: return reader.length;
            case 8: return now.z;
            default: return BAD;
        }
    }

    // ---- what the calls have in common

    private static boolean isBelow(int v, int limit) {
        return v >= 0 && v < limit;
    }

    private static boolean isWithin(int v, int low, int high) {
        return v >= low && v <= high;
    }

    private static boolean isWhen(int when) {
        return isBelow(when, VOYAGES * DAYS);
    }

    private static boolean areTwo(int one, int other, int limit) {
        return isBelow(one, limit) && isBelow(other, limit) && one != other;
    }

    /** The tree of kinds is two steps deep, so that a kind has at most one other between it and MARK. */
    private static boolean isUnder(int kind, int above) {
        return kind == above || above == 0 || ABOVE[kind] == above;
    }

    /** Of a kind, not of a mark: a slot keeps no more than the kind of the mark that was laid there. */
    private static int worthOf(int kind) {
        int asMark = 1;
        int asDrawn = asMark + 1;
        switch (kind) {
            case FIX: return 5;
            case DRAWN: case COPIED: return asDrawn;
            case NAMED: return asMark + 2;
            case ASHORE: return 4 * asDrawn;
            default: return asMark;
        }
    }

    /** A passage has no direction: both orders of its capes have one code. */
    private static int passageCode(int one, int other, int how) {
        return (Math.min(one, other) * CAPES + Math.max(one, other)) * HOWS + how;
    }

    private static int heldIn(long v, int low, int high) {
        return (int) Math.max(low, Math.min(high, v));
    }

    private static int drawn(int z) {
        return z * 1103515245 + 12345;
    }

    private static int sight(int z, int place, int s) {
        return place - s + (z >>> 8) % (2 * s + 1);
    }

    private int changesBetween(Sheet from, Sheet to) {
        for (int j = 0; j <= to.size; j++) {
            costs[j] = j;
        }
        for (int i = 1; i <= from.size; i++) {
            int corner = costs[0];
            costs[0] = i;
            for (int j = 1; j <= to.size; j++) {
                int above = costs[j];
                int made = from.row[i - 1] == to.row[j - 1] ? corner : corner + 1;
                costs[j] = Math.min(made, Math.min(above, costs[j - 1]) + 1);
                corner = above;
            }
        }
        return costs[to.size];
    }

    /** A MARK; cape and name are NONE while it has none. */
    private static final class Mark {
        int kind, voyage, day, at, off, cape, name;

        void become(int newKind, int when, int newAt, int newOff) {
            kind = newKind;
            voyage = when / DAYS;
            day = when % DAYS;
            at = newAt;
            off = newOff;
            cape = NONE;
            name = NONE;
        }

        void takeFrom(Mark m) {
            kind = m.kind;
            voyage = m.voyage;
            day = m.day;
            at = m.at;
            off = m.off;
            cape = m.cape;
            name = m.name;
        }

        int span() {
            int asMark = 20;
            int asDrawn = asMark + 5;
            switch (kind) {
                case RUN: return asMark / 2 + at / 20;
                case BEARING: return 15;
                case FIX: return 5 + day / 10;
                case DRAWN: return asDrawn;
                case COPIED: return asDrawn + 10;
                case ASHORE: return 2;
                default: return asMark;
            }
        }
    }

    /** A TEXT in working order: numbers as they are, names and signs as their bytes made negative. */
    private static final class Text {
        int key, voyage, leaves, length;
        final int[] code = new int[TAPE];

        void takeFrom(Reader r) {
            key = r.key;
            voyage = r.voyage;
            leaves = r.leaves;
            length = r.codeLength;
            System.arraycopy(r.code, 0, code, 0, length);
        }

        /** The stack is as long as the code, so it has room; the reader writes no sign without its parts. */
        int valueFor(Mark m, int[] stack) {
            int top = 0;
            for (int i = 0; i < length && top < stack.length; i++) {
                int step = -code[i];
                if (step <= 0) {
                    stack[top++] = -step;
                } else if (step == 'd' || step == 'a' || step == 'o') {
                    stack[top++] = step == 'd' ? m.day : step == 'a' ? m.at : m.off;
                } else if (step == '!' && top >= 1) {
                    stack[top - 1] = stack[top - 1] == 0 ? 1 : 0;
                } else if (top >= 2) {
                    top--;
                    stack[top - 1] = joined(step, stack[top - 1], stack[top]);
                }
            }
            return stack[0];
        }

        private static int joined(int sign, int a, int b) {
            switch (sign) {
                case '|': return a != 0 || b != 0 ? 1 : 0;
                case '&': return a != 0 && b != 0 ? 1 : 0;
                case '<': return a < b ? 1 : 0;
                case '=': return a == b ? 1 : 0;
                case '>': return a > b ? 1 : 0;
                case '+': return a + b;
                case '-': return a - b;
                case '*': return a * b;
                default: return b == 0 ? 0 : a / b;
            }
        }
    }

    /**
     * THE TAPE, and its reading as a TEXT. Each reading method starts at the word or sign at hand and
     * answers false with the first one that can't go on: then that one, and its start, stay at hand.
     */
    private static final class Reader {
        private static final int END = 0, NUMBER = 1, WORD = 2, SIGN = 3, WRONG = 4;
        private static final int OR = 0, AND = 1, TEST = 2, SUM = 3, TERM = 4, PIECE = 5;
        private static final int MOST_OPEN = 8, MOST_DIGITS = 4;

        final int[] tape = new int[TAPE];
        int length = 0;
        int start, end, sort, value;
        int key, voyage, leaves, codeLength;
        int brackets, nots;
        final int[] code = new int[TAPE];

        void take(int four) {
            for (int shift = 24; shift >= 0 && length < TAPE; shift -= 8) {
                tape[length++] = four >>> shift & 255;
            }
        }

        boolean readText() {
            end = 0;
            sort = SIGN;
            leaves = 0;
            codeLength = 0;
            brackets = 0;
            nots = 0;
            step();
            return readKey() && readVoyage() && readLevel(OR) && sort == END;
        }

        /** On to the next word or sign; a word glued to the one before, or too long, is WRONG. */
        private void step() {
            boolean behindWord = sort == WORD || sort == NUMBER;
            int behind = end;
            start = end;
            while (start < length && tape[start] == ' ') {
                start++;
            }
            end = start;
            if (start >= length) {
                sort = END;
            } else if (isLetter(tape[start])) {
                takeLetters();
            } else if (isDigit(tape[start])) {
                takeDigits();
            } else {
                sort = SIGN;
                value = tape[start];
                end = start + 1;
                return;
            }
            if (behindWord && sort != END && start == behind) {
                sort = WRONG;
            }
        }

        private void takeLetters() {
            sort = WORD;
            while (end < length && isLetter(tape[end])) {
                end++;
            }
        }

        private void takeDigits() {
            value = 0;
            while (end < length && isDigit(tape[end])) {
                value = value * 10 + tape[end] - '0';
                end++;
            }
            sort = end - start > MOST_DIGITS ? WRONG : NUMBER;
        }

        private static boolean isLetter(int b) {
            return isWithin(b, 'a', 'z');
        }

        private static boolean isDigit(int b) {
            return isWithin(b, '0', '9');
        }

        private boolean isSpelt(String word) {
            if (sort != WORD || end - start != word.length()) {
                return false;
            }
            for (int i = 0; i < word.length(); i++) {
                if (tape[start + i] != word.charAt(i)) {
                    return false;
                }
            }
            return true;
        }

        private boolean readKey() {
            key = isSpelt("log") ? LOG : isSpelt("needle") ? NEEDLE : isSpelt("watch") ? WATCH : NONE;
            if (key == NONE) {
                return false;
            }
            step();
            return true;
        }

        private boolean readVoyage() {
            if (sort != NUMBER || value >= VOYAGES) {
                return false;
            }
            voyage = value;
            step();
            return true;
        }

        /** One level of looseness: parts of the next one, joined by the signs of this one. */
        private boolean readLevel(int level) {
            if (level >= PIECE) {
                return readPiece();
            }
            boolean good = readLevel(level + 1);
            int mostSigns = level == TEST ? 1 : TAPE;
            for (int i = 0; i < mostSigns && good && sort == SIGN && levelOf(value) == level; i++) {
                int sign = value;
                step();
                good = readLevel(level + 1);
                emit(-sign);
            }
            return good;
        }

        private static int levelOf(int sign) {
            switch (sign) {
                case '|': return OR;
                case '&': return AND;
                case '<': case '=': case '>': return TEST;
                case '+': case '-': return SUM;
                case '*': case '/': return TERM;
                default: return NONE;
            }
        }

        private boolean readPiece() {
            if (sort == SIGN) {
                return value == '!' ? readNot() : value == '(' && readBrackets();
            }
            if (sort == NUMBER) {
                emit(value);
            } else if (isSpelt("d") || isSpelt("a") || key == NEEDLE && isSpelt("o")) {
                emit(-tape[start]);
            } else {
                return false;
            }
            leaves++;
            step();
            return true;
        }

        private boolean readNot() {
            if (nots >= MOST_OPEN) {
                return false;
            }
            nots++;
            step();
            boolean good = readPiece();
            nots--;
            emit(-'!');
            return good;
        }

        private boolean readBrackets() {
            if (brackets >= MOST_OPEN) {
                return false;
            }
            brackets++;
            step();
            boolean good = readLevel(OR) && sort == SIGN && value == ')';
            brackets--;
            if (good) {
                step();
            }
            return good;
        }

        private void emit(int step) {
            if (codeLength < TAPE) {
                code[codeLength++] = step;
            }
        }
    }

    /** All that an image keeps. */
    private static final class Coast {
        final Mark[] marks = new Mark[MARKS];
        /** One row for the coast and its image: the coast never has fewer texts, so none is lost. */
        final Text[] texts;
        final int[] stack;
        final int[] chosen = new int[VOYAGES * CHOSEN];
        final int[] chosenCount = new int[VOYAGES];
        final int[] passages = new int[PASSAGES];
        final int[] setDay = new int[VOYAGES];
        final int[] setBy = new int[VOYAGES];
        final int[] surveyed = new int[CAPES];
        int markCount = 0, textCount = 0, passageCount = 0, z = 1;

        Coast(Text[] sharedTexts, int[] sharedStack) {
            texts = sharedTexts;
            stack = sharedStack;
            for (int i = 0; i < MARKS; i++) {
                marks[i] = new Mark();
            }
            for (int v = 0; v < VOYAGES; v++) {
                setDay[v] = DAYS;
            }
            for (int c = 0; c < CAPES; c++) {
                surveyed[c] = NONE;
            }
        }

        void takeFrom(Coast other) {
            for (int i = 0; i < other.markCount; i++) {
                marks[i].takeFrom(other.marks[i]);
            }
            System.arraycopy(other.chosen, 0, chosen, 0, chosen.length);
            System.arraycopy(other.chosenCount, 0, chosenCount, 0, VOYAGES);
            System.arraycopy(other.passages, 0, passages, 0, PASSAGES);
            System.arraycopy(other.setDay, 0, setDay, 0, VOYAGES);
            System.arraycopy(other.setBy, 0, setBy, 0, VOYAGES);
            System.arraycopy(other.surveyed, 0, surveyed, 0, CAPES);
            markCount = other.markCount;
            textCount = other.textCount;
            passageCount = other.passageCount;
            z = other.z;
        }

        int addMark(int kind, int when, int at, int off) {
            if (markCount >= MARKS) {
                return FULL;
            }
            marks[markCount].become(kind, when, at, off);
            markCount++;
            return markCount - 1;
        }

        int marksPut() {
            int many = 0;
            for (int i = 0; i < markCount; i++) {
                many += marks[i].cape != NONE ? 1 : 0;
            }
            return many;
        }

        int textFor(int voyage, int key) {
            for (int i = textCount - 1; i >= 0; i--) {
                if (texts[i].voyage == voyage && texts[i].key == key) {
                    return i;
                }
            }
            return NONE;
        }

        int lawFor(Mark m, int key, int without) {
            int text = textFor(m.voyage, key);
            return text == NONE ? without : texts[text].valueFor(m, stack);
        }

        int logOf(Mark m) {
            return heldIn(lawFor(m, LOG, 100), 1, 400);
        }

        int needleOf(Mark m) {
            return heldIn(lawFor(m, NEEDLE, 0), -MOST_LEAN, MOST_LEAN);
        }

        int watchOf(Mark m) {
            int by = m.day >= setDay[m.voyage] ? setBy[m.voyage] : 0;
            return watchWith(lawFor(m, WATCH, 0), by);
        }

        /** As longs, for the law may give any int, and the two together are not to wrap. */
        static int watchWith(int law, int by) {
            return heldIn((long) law + by, -MOST_LEAN, MOST_LEAN);
        }

        int saysOf(Mark m) {
            int asDrawn = m.at + m.off / 10;
            switch (m.kind) {
                case RUN: return m.at * logOf(m) / 100;
                case BEARING: return m.at + needleOf(m);
                case FIX: return m.at + watchOf(m);
                case DRAWN: return asDrawn;
                case COPIED: return asDrawn / 5 * 5;
                case ASHORE: return asDrawn - m.off / 10;
                default: return m.at;
            }
        }

        Mark chosenMark(int voyage, int i) {
            return marks[chosen[voyage * CHOSEN + i]];
        }

        boolean isChosen(int mark) {
            int voyage = marks[mark].voyage;
            for (int i = 0; i < chosenCount[voyage]; i++) {
                if (chosen[voyage * CHOSEN + i] == mark) {
                    return true;
                }
            }
            return false;
        }

        int chosenInAll() {
            int many = 0;
            for (int v = 0; v < VOYAGES; v++) {
                many += chosenCount[v];
            }
            return many;
        }

        int passagesOf(int one, int other, int how) {
            int code = passageCode(one, other, how);
            int many = 0;
            for (int i = 0; i < passageCount; i++) {
                many += passages[i] == code ? 1 : 0;
            }
            return many;
        }

        /** As bits, so that two names are one place where they share a bit. */
        int capesNamed(int name) {
            int bits = 0;
            for (int i = 0; i < markCount; i++) {
                if (marks[i].name == name && marks[i].cape != NONE) {
                    bits |= 1 << marks[i].cape;
                }
            }
            return bits;
        }

        int surveyedInAll() {
            int many = 0;
            for (int c = 0; c < CAPES; c++) {
                many += surveyed[c] != NONE ? 1 : 0;
            }
            return many;
        }

        boolean isToBeMissed(Mark m, int voyage) {
            return m.voyage == voyage && m.cape != NONE && surveyed[m.cape] != NONE;
        }

        int missesOf(int voyage) {
            int sum = 0;
            for (int i = 0; i < markCount; i++) {
                Mark m = marks[i];
                sum += isToBeMissed(m, voyage) ? Math.abs(saysOf(m) - surveyed[m.cape]) : 0;
            }
            return sum;
        }

        int missingMarksOf(int voyage) {
            int many = 0;
            for (int i = 0; i < markCount; i++) {
                many += isToBeMissed(marks[i], voyage) ? 1 : 0;
            }
            return many;
        }

        /** All draws are made, also behind a sight that is too far off: z goes on by whole sailings. */
        boolean sailsWithin(int s, int t) {
            boolean all = true;
            for (int c = 0; c < CAPES; c++) {
                if (surveyed[c] != NONE) {
                    z = drawn(z);
                    all &= Math.abs(sight(z, surveyed[c], s) - surveyed[c]) <= t;
                }
            }
            return all;
        }

        /** How many told numbers are right up to the first that is not; z itself stays, to be drawn from again. */
        int rightSights(int[] told, int many, int sailings, int s) {
            int right = 0;
            int drawnZ = z;
            for (int i = 0; i < sailings; i++) {
                for (int c = 0; c < CAPES; c++) {
                    if (surveyed[c] != NONE) {
                        drawnZ = drawn(drawnZ);
                        if (right >= many || told[right] != sight(drawnZ, surveyed[c], s)) {
                            return right;
                        }
                        right++;
                    }
                }
            }
            return right;
        }
    }

    /** What the marks put to one cape say of it together. */
    private static final class Ends {
        int marks, least, most, worth, voyages;

        void look(Coast coast, int cape) {
            marks = 0;
            worth = 0;
            voyages = 0;
            for (int i = 0; i < coast.markCount; i++) {
                Mark m = coast.marks[i];
                if (m.cape == cape) {
                    narrow(m, coast.saysOf(m));
                }
            }
        }

        private void narrow(Mark m, int says) {
            int span = m.span();
            least = marks == 0 ? says - span : Math.max(least, says - span);
            most = marks == 0 ? says + span : Math.min(most, says + span);
            marks++;
            worth += worthOf(m.kind);
            voyages |= 1 << m.voyage;
        }

        boolean areSeen() {
            return marks > 0;
        }

        boolean hold() {
            return marks > 0 && least <= most;
        }

        int width() {
            return most - least;
        }

        boolean standOnOne() {
            return Integer.bitCount(voyages) == 1;
        }
    }

    /** THE MATCH of two voyages, found by trying all there are, the first of the best being kept. */
    private static final class Match {
        int pairs, sum;
        /** Of each told mark of the one: its partner's number, or NONE. */
        final int[] partners = new int[CHOSEN];
        private int ones, others;
        /** Of the told marks of the one and the other: how far apart, or NONE if they may not be paired. */
        private final int[] apart = new int[CHOSEN * CHOSEN];
        private final int[] tried = new int[CHOSEN];

        void find(Coast coast, int one, int other) {
            ones = coast.chosenCount[one];
            others = coast.chosenCount[other];
            for (int i = 0; i < ones; i++) {
                Mark a = coast.chosenMark(one, i);
                int says = coast.saysOf(a);
                for (int k = 0; k < others; k++) {
                    Mark b = coast.chosenMark(other, k);
                    int far = Math.abs(says - coast.saysOf(b));
                    apart[i * CHOSEN + k] = far <= a.span() + b.span() ? far : NONE;
                }
            }
            pairs = -1;
            sum = 0;
            attempt(0, 0, 0, 0);
            for (int i = 0; i < ones; i++) {
                partners[i] = partners[i] == NONE ? NONE : coast.chosen[other * CHOSEN + partners[i]];
            }
        }

        /** What can't reach as many pairs as were found is not tried out. */
        private void attempt(int i, int taken, int madePairs, int madeSum) {
            if (madePairs + ones - i < pairs) {
                return;
            }
            if (i >= ones) {
                keepBetter(madePairs, madeSum);
                return;
            }
            for (int k = 0; k < others; k++) {
                int far = apart[i * CHOSEN + k];
                if (far != NONE && (taken & 1 << k) == 0) {
                    tried[i] = k;
                    attempt(i + 1, taken | 1 << k, madePairs + 1, madeSum + far);
                }
            }
            tried[i] = NONE;
            attempt(i + 1, taken, madePairs, madeSum);
        }

        private void keepBetter(int madePairs, int madeSum) {
            if (madePairs > pairs || madePairs == pairs && madeSum < sum) {
                pairs = madePairs;
                sum = madeSum;
                System.arraycopy(tried, 0, partners, 0, ones);
            }
        }
    }

    /** SETTINGS of a clock; least and greatest are NONE while there are none. */
    private static final class Settings {
        private static final int FURTHEST = 50;
        /** Further off than any mark can say that a cape is. */
        private static final int FAR = 1000000;
        int many, least, greatest;
        /** What does not change from one setting to the next is worked out once for each mark. */
        private final int[] law = new int[MARKS];
        private final int[] says = new int[MARKS];
        private final int[] low = new int[CAPES];
        private final int[] high = new int[CAPES];
        private int fixed;

        private static boolean isFixOf(Mark m, int voyage) {
            return isUnder(m.kind, FIX) && m.voyage == voyage;
        }

        void prepare(Coast coast, int voyage) {
            fixed = 0;
            for (int i = 0; i < coast.markCount; i++) {
                Mark m = coast.marks[i];
                law[i] = coast.lawFor(m, WATCH, 0);
                says[i] = coast.saysOf(m);
                if (m.cape != NONE && isFixOf(m, voyage)) {
                    fixed |= 1 << m.cape;
                }
            }
        }

        void find(Coast coast, int voyage, int day) {
            many = 0;
            least = NONE;
            greatest = NONE;
            for (int s = -FURTHEST; s <= FURTHEST; s++) {
                if (allHold(coast, voyage, day, s)) {
                    many++;
                    least = least == NONE ? s : least;
                    greatest = s;
                }
            }
        }

        private boolean allHold(Coast coast, int voyage, int day, int s) {
            for (int c = 0; c < CAPES; c++) {
                low[c] = -FAR;
                high[c] = FAR;
            }
            for (int i = 0; i < coast.markCount; i++) {
                Mark m = coast.marks[i];
                if (m.cape != NONE) {
                    int by = m.day >= day ? s : 0;
                    int said = isFixOf(m, voyage) ? m.at + Coast.watchWith(law[i], by) : says[i];
                    low[m.cape] = Math.max(low[m.cape], said - m.span());
                    high[m.cape] = Math.min(high[m.cape], said + m.span());
                }
            }
            for (int c = 0; c < CAPES; c++) {
                if ((fixed & 1 << c) != 0 && low[c] > high[c]) {
                    return false;
                }
            }
            return true;
        }
    }

    /** A SHEET; fog on floats is NONE, which no float can be. */
    private static final class Sheet {
        int sort = MISSING, size = 0;
        final int[] row = new int[PLACES];

        boolean isMissing() {
            return sort == MISSING;
        }

        boolean isFog(int v) {
            return sort == FLOATS && v == NONE;
        }

        boolean hasPlaces(int first, int many) {
            return first >= 0 && many >= 0 && many <= size - first;
        }

        void become(int newSort, int n) {
            sort = newSort;
            size = n;
            for (int i = 0; i < PLACES; i++) {
                row[i] = 0;
            }
        }

        void takeFrom(Sheet other) {
            sort = other.sort;
            size = other.size;
            System.arraycopy(other.row, 0, row, 0, PLACES);
        }

        int placesWithin(int limit) {
            int many = 0;
            for (int i = 0; i < size; i++) {
                many += isBelow(row[i], limit) ? 1 : 0;
            }
            return many;
        }

        int smoothen() {
            int changed = 0;
            int left = row[0];
            for (int i = 1; i < size - 1; i++) {
                int here = row[i];
                int right = row[i + 1];
                if (!isFog(left) && !isFog(here) && !isFog(right)) {
                    row[i] = (int) (((long) left + here + right) / 3);
                }
                changed += row[i] != here ? 1 : 0;
                left = here;
            }
            return changed;
        }
    }

    /** A SLOT: of what it held before, nothing is asked again. */
    private static final class Slot {
        int thing = 0, kind = 0, number = 0;
        final Sheet sheet = new Sheet();
    }
}
