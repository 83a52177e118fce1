/** Promises 43 to 47: numbers that wait, images, counts. */
public final class ImagesTest {
    private static final int BAD = CoastThree.BAD, NO = CoastThree.NO, FULL = CoastThree.FULL, NONE = CoastThree.NONE;
    private static final Due due = new Due();

    public static void main(String[] args) {
        numbersWait();
        sightsAreChecked();
        sightsAreFromTheImage();
        checksAreRefused();
        numbersWaitNoMore();
        imagesAreKept();
        imagesKeepAll();
        imagesLeaveTheRest();
        textsOfAnImage();
        counts();
        due.end();
    }

    private static void numbersWait() {
        CoastThree x = new CoastThree();
        for (int i = 1; i <= 60; i++) {
            due.is("43: how many", x.tell(i % 2 == 0 ? Integer.MIN_VALUE : i), i);
        }
        due.is("43: 60 wait", x.tell(0), FULL);
        due.is("43: counted", x.count(6), 60);
    }

    private static int drawn(int z) {
        return (int) ((z * 1103515245L + 12345L) & 0xffffffffL);
    }

    /** What is seen in n sailings by s, from z on, with these capes surveyed. */
    private static int[] sights(int z, int n, int s, int... places) {
        int[] seen = new int[n * places.length];
        int drawn = z;
        for (int i = 0; i < seen.length; i++) {
            drawn = drawn(drawn);
            seen[i] = places[i % places.length] - s + (drawn >>> 8) % (2 * s + 1);
        }
        return seen;
    }

    private static void tellAll(CoastThree x, int[] numbers, int many) {
        for (int i = 0; i < many; i++) {
            x.tell(numbers[i]);
        }
    }

    private static CoastThree threeSurveyed() {
        CoastThree x = new CoastThree();
        x.survey(7, 300);
        x.survey(2, 40);
        x.survey(5, 999);
        x.seed(-123456789);
        x.keep();
        return x;
    }

    private static void sightsAreChecked() {
        CoastThree x = threeSurveyed();
        int[] seen = sights(-123456789, 20, 150, 40, 999, 300);
        tellAll(x, seen, 60);
        due.is("44: all sixty", x.check(20, 150), 0);
        for (int wrong = 0; wrong < 60; wrong += 7) {
            CoastThree y = threeSurveyed();
            seen[wrong]++;
            tellAll(y, seen, 60);
            seen[wrong]--;
            due.is("44: number " + wrong + " is not right", y.check(20, 150), 1 + wrong);
        }
        for (int n = 1; n < 4; n++) {
            tellAll(x, seen, 3 * n);
            due.is("44: all", x.check(n, 150), 0);
            tellAll(x, seen, 3 * n - 1);
            due.is("44: one is missing", x.check(n, 150), 3 * n);
            tellAll(x, seen, 3 * n + 2);
            due.is("44: one too many", x.check(n, 150), 3 * n + 1);
        }
        due.is("44: none wait", x.check(1, 0), 1);
        due.is("44: z stays", x.count(8), -123456789);
    }

    private static void sightsAreFromTheImage() {
        CoastThree x = new CoastThree();
        x.survey(0, 10);
        x.keep();
        x.survey(0, 20);
        x.survey(1, 30);
        x.seed(5);
        int[] seen = sights(1, 3, 9, 10);
        tellAll(x, seen, 3);
        due.is("44: the image's places and z", x.check(3, 9), 0);
        tellAll(x, seen, 3);
        due.is("44: again", x.check(3, 9), 0);
        due.is("44: z of now stays", x.count(8), 5);
        x.keep();
        tellAll(x, sights(5, 2, 9, 20, 30), 4);
        due.is("44: the new image", x.check(2, 9), 0);
        CoastThree y = new CoastThree();
        y.keep();
        due.is("44: no sights, none wait", y.check(20, 200), 0);
        y.tell(0);
        due.is("44: no sights, one waits", y.check(1, 0), 1);
    }

    private static void checksAreRefused() {
        CoastThree x = new CoastThree();
        due.is("44: no image", x.check(1, 0), NO);
        due.is("44: BAD ahead of NO", x.check(0, 0), BAD);
        for (int c = 0; c < 4; c++) {
            x.survey(c, 0);
        }
        x.keep();
        int[][] bad = {{0, 0}, {21, 0}, {1, -1}, {1, 201}, {Integer.MIN_VALUE, 0}, {1, Integer.MAX_VALUE}};
        for (int[] b : bad) {
            due.is("44: BAD", x.check(b[0], b[1]), BAD);
        }
        due.is("44: 64 are more than 60", x.check(16, 0), FULL);
        due.is("44: 60 are not", x.check(15, 0), 1);
        due.is("44: BAD ahead of FULL", x.check(20, 201), BAD);
    }

    private static void numbersWaitNoMore() {
        CoastThree x = new CoastThree();
        x.tell(1);
        x.check(0, 0);
        due.is("44: none after BAD", x.count(6), 0);
        x.tell(1);
        x.check(1, 0);
        due.is("44: none after NO", x.count(6), 0);
        for (int c = 0; c < 9; c++) {
            x.survey(c, c);
        }
        x.keep();
        x.tell(1);
        x.check(7, 0);
        due.is("44: none after FULL", x.count(6), 0);
        x.tell(1);
        x.check(1, 0);
        due.is("44: none after a wrong one", x.count(6), 0);
        for (int c = 0; c < 9; c++) {
            x.tell(c);
        }
        due.is("44: right", x.check(1, 0), 0);
        due.is("44: none after right ones", x.count(6), 0);
        due.is("43: from one on", x.tell(9), 1);
    }

    private static void imagesAreKept() {
        CoastThree x = new CoastThree();
        due.is("46: none", x.back(), NO);
        due.is("45: no marks", x.keep(), 0);
        x.mark(0, 0, 0, 0);
        x.mark(0, 0, 0, 0);
        due.is("46: no marks", x.back(), 0);
        due.is("46: none there", x.told(0, 0), BAD);
        x.mark(0, 0, 0, 0);
        due.is("45: one mark", x.keep(), 1);
        x.mark(0, 0, 0, 0);
        due.is("46: again", x.back(), 1);
        x.mark(0, 0, 0, 0);
        due.is("46: and again", x.back(), 1);
    }

    /** Everything that an image keeps, told in one row. */
    private static int[] all(CoastThree x) {
        int[] row = new int[1000];
        int n = 0;
        for (int m = 0; m < 5; m++) {
            for (int what = 0; what < 13; what++) {
                row[n++] = x.told(m, what);
            }
        }
        for (int v = 0; v < 3; v++) {
            for (int key = 0; key < 3; key++) {
                row[n++] = x.why(v, key);
            }
            row[n++] = x.misses(v, 0);
            row[n++] = x.match(v, (v + 1) % 3, -2);
            row[n++] = x.match(v, (v + 1) % 3, 0);
        }
        for (int c = 0; c < 9; c++) {
            row[n++] = x.between(c, (c + 1) % 9);
            row[n++] = x.cape(c, 0);
            row[n++] = x.kept(c);
        }
        row[n++] = x.held();
        for (int what = 0; what < 6; what++) {
            row[n++] = x.count(what);
        }
        row[n++] = x.count(8);
        return row;
    }

    private static CoastThree told() {
        CoastThree x = new CoastThree();
        x.mark(6, 10, 100, 1);
        x.mark(3, 120, 110, 2);
        x.mark(1, 230, 500, 3);
        x.put(0, 0);
        x.put(1, 0);
        x.name(0, 4);
        x.choose(0);
        x.choose(1);
        x.passage(0, 1, 0);
        x.set(1, 15, 3);
        x.survey(0, 105);
        x.seed(42);
        Tape.law(x, "log 2 d*2");
        return x;
    }

    private static void imagesKeepAll() {
        CoastThree x = told();
        int[] then = all(x);
        x.keep();
        for (int round = 0; round < 2; round++) {
            x.mark(3, 0, 5, 5);
            x.mark(6, 130, 7, 5);
            x.put(0, 5);
            x.put(1, -1);
            x.put(2, 3);
            x.name(0, 9);
            x.clear();
            x.choose(2);
            x.passage(0, 1, 1);
            x.passage(4, 5, 2);
            x.set(1, 0, -9);
            x.set(0, 0, 50);
            x.survey(0, 7);
            x.survey(5, 9);
            x.share(3, 5, 5);
            Tape.law(x, "log 2 1");
            Tape.law(x, "watch 1 50");
            due.is("46: how many marks", x.back(), 3);
            int[] now = all(x);
            for (int i = 0; i < now.length; i++) {
                due.is("46: round " + round + " number " + i, now[i], then[i]);
            }
        }
        due.is("46: what was never set", x.clock(0, 0, 0), 101);
    }

    private static void imagesLeaveTheRest() {
        CoastThree x = new CoastThree();
        x.keep();
        x.sheet(0, 0, 2);
        x.write(0, 1, 6);
        x.lay(3, 3, 17);
        x.tell(5);
        x.feed(1, 2, 3);
        x.back();
        due.is("46: the sheet stays", x.changes(0, 0), 0);
        x.lay(0, 2, 0);
        due.is("46: as it is", x.item(0, 1), 6);
        due.is("46: the slot stays", x.rest(3, 10), 7);
        due.is("46: numbers wait", x.count(6), 1);
        due.is("46: the tape stays", x.count(7), 12);
        due.is("45: they wait after keep too", x.keep() + x.count(6), 1);
    }

    /** A text told after the image goes with it, and its number is given anew. */
    private static void textsOfAnImage() {
        CoastThree x = new CoastThree();
        x.mark(0, 10, 0, 0);
        Tape.law(x, "log 0 11");
        x.keep();
        due.is("46: behind the image", Tape.law(x, "log 0 22"), 1);
        x.back();
        due.is("46: the image's law", x.told(0, 10), 11);
        due.is("46: its number anew", Tape.law(x, "log 0 33"), 1);
        due.is("46: it counts", x.told(0, 10), 33);
        x.back();
        due.is("46: the image's law again", x.told(0, 10), 11);
        for (int i = 1; i < 14; i++) {
            due.is("9: number", Tape.law(x, "log 0 " + i), i);
        }
        due.is("9: full", Tape.law(x, "log 0 1"), FULL);
        x.keep();
        x.back();
        due.is("46: all fourteen", x.told(0, 10), 13);
        due.is("46: still full", Tape.law(x, "log 0 1"), FULL);
    }

    private static void counts() {
        CoastThree x = told();
        x.tell(1);
        x.tell(1);
        x.feed(0, 0, 0);
        int[] want = {3, 2, 1, 1, 2, 1, 2, 12, 42};
        for (int what = 0; what < 9; what++) {
            due.is("47: count " + what, x.count(what), want[what]);
        }
        due.is("47: below", x.count(-1), BAD);
        due.is("47: above", x.count(9), BAD);
        due.is("47: far below", x.count(Integer.MIN_VALUE), BAD);
        x.seed(NONE);
        due.is("47: any z", x.count(8), NONE);
    }
}
