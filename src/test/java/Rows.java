/** Fills sheets of an object, and looks at what stands on them. */
final class Rows {
    private Rows() {
    }

    static void fill(Due due, CoastThree x, int sheet, int sort, int... row) {
        x.sheet(sheet, sort, row.length);
        for (int i = 0; i < row.length; i++) {
            due.is("36: write", x.write(sheet, i, row[i]), 1);
        }
    }

    /** By slot 4, which is laid anew; fog is told as KIND. */
    static void are(Due due, String where, CoastThree x, int sheet, int... want) {
        x.lay(4, 2, sheet);
        for (int i = 0; i < want.length; i++) {
            due.is(where + " place " + i, x.item(4, i), want[i]);
        }
        due.is(where + " its end", x.item(4, want.length), CoastThree.INDEX);
    }
}
