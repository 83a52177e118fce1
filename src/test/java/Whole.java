import java.util.ArrayList;
import java.util.List;

/** Objects in which everything is told, up to every limit or half of it; and all that can be asked of one. */
final class Whole {
    private static final int[] PLACES = {310, 320, 330};
    private final boolean full;

    Whole(boolean isFull) {
        full = isFull;
    }

    int marks() {
        return full ? 24 : 12;
    }

    int texts() {
        return full ? 14 : 7;
    }

    private int chosen() {
        return full ? 5 : 2;
    }

    /**
     * Some 210 calls. Sheet 0 is of ints, 1 of floats with fog, 2 of ints, 3 MISSING; slot 0 holds nothing, 1 a
     * MARK ashore, 2 a SHEET with fog, 3 a number, 4 nothing; cape 8 does not HOLD, cape 7 is not SEEN.
     */
    CoastThree made() {
        CoastThree x = new CoastThree();
        x.mark(6, 7, 305, 0);
        for (int c = 0; c < 3; c++) {
            x.survey(c, PLACES[c]);
        }
        x.keep();
        for (int i = 1; i < marks(); i++) {
            x.mark(i % 8, i % 3 * 100 + i, i == marks() - 1 ? 900 : 300 + i, i);
        }
        for (int i = 0; i < marks(); i++) {
            x.put(i, i % 7);
        }
        x.put(marks() - 1, 8);
        x.put(7, 8);
        x.put(1, -1);
        tellTheRest(x);
        return x;
    }

    private void tellTheRest(CoastThree x) {
        for (int i = 0; i < 3 * chosen(); i++) {
            x.choose(i);
        }
        x.name(0, 4);
        x.name(6, 5);
        for (int i = 0; i < texts(); i++) {
            String text = new String[] {"log ", "needle ", "watch "}[i % 3] + i / 3 % 3 + " d+" + (10 + i);
            feed(x, text + " ".repeat(24 - text.length()));
            x.law();
        }
        for (int i = 0; i < (full ? 20 : 10); i++) {
            x.passage(i % 9, (i + 1 + i / 9) % 9, i % 4);
        }
        x.survey(4, 304);
        x.survey(8, 999);
        x.seed(12345);
        x.set(0, 5, 3);
        x.set(2, 10, -4);
        sheetsAndSlots(x);
        for (int i = 0; i < (full ? 60 : 30); i++) {
            x.tell(PLACES[i % 3]);
        }
        for (int i = 0; i < (full ? 4 : 2); i++) {
            feed(x, "log 0 1+1+1+1+1+1+1+1+1+".substring(i == 0 ? 0 : 12).repeat(2).substring(0, 24));
        }
    }

    private static void sheetsAndSlots(CoastThree x) {
        int[] row = {5, 400, 9};
        for (int s = 0; s < 3; s++) {
            x.sheet(s, s % 2, 3);
            x.write(s, s, row[s]);
        }
        x.write(1, 0, CoastThree.NONE);
        x.lay(1, 1, 7);
        x.lay(2, 2, 1);
        x.lay(3, 3, -17);
    }

    /** Of a length that twelve divides. */
    static void feed(CoastThree x, String text) {
        for (int i = 0; i < text.length(); i += 12) {
            x.feed(Tape.four(text, i), Tape.four(text, i + 4), Tape.four(text, i + 8));
        }
    }

    /** All that can be asked, in some 240 calls; the last of them change the object. */
    List<Integer> asked(CoastThree x) {
        List<Integer> row = new ArrayList<>();
        for (int what = 0; what < 9; what++) {
            row.add(x.count(what));
        }
        for (int m = 0; m < marks(); m++) {
            row.add(x.told(m, 5));
            row.add(x.told(m, 6));
            row.add(x.told(m, 9));
        }
        for (int t = 0; t < texts(); t++) {
            row.add(x.of(t, 1));
        }
        for (int i = 0; i < 9; i++) {
            row.add(x.why(i / 3, i % 3));
            row.add(x.told(i / 3, 10 + i % 3));
        }
        for (int i = 0; i < 3 * chosen(); i++) {
            row.add(x.match(i % 3, (i + 1) % 3, i / 3));
        }
        for (int i = 0; i < 81; i++) {
            if (i / 9 < i % 9) {
                row.add(x.between(i / 9, i % 9));
            }
        }
        row.add(x.same(4, 5));
        row.add(x.kept(0));
        row.add(x.held());
        row.add(x.best());
        row.add(x.next());
        for (int v = 0; v < 3; v++) {
            row.add(x.clock(v, 5, 0));
            row.add(x.misses(v, 0));
        }
        askSlots(row, x);
        askTheRest(row, x);
        return row;
    }

    private static void askSlots(List<Integer> row, CoastThree x) {
        for (int s = 0; s < 5; s++) {
            row.add(x.ask(s, 0));
            row.add(x.item(s, 1));
            row.add(x.rest(s, 5));
        }
        for (int s = 0; s < 4; s++) {
            row.add(x.lay(s, 2, s));
            for (int place = 0; place < 4; place++) {
                row.add(x.item(s, place));
            }
        }
    }

    private void askTheRest(List<Integer> row, CoastThree x) {
        row.add(x.check(full ? 20 : 10, 0));
        row.add(x.law());
        for (int c = 0; c < 9; c++) {
            row.add(x.survey(c, 1));
        }
        row.add(x.back());
        for (int what = 0; what < 9; what++) {
            row.add(x.count(what));
        }
        for (int c = 0; c < 9; c++) {
            row.add(x.survey(c, 1));
        }
        row.add(x.told(0, 5));
        row.add(x.told(0, 9));
    }
}
