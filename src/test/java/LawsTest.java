/** Promises 7 to 11: the tape, and laws read from it. */
public final class LawsTest {
    private static final int BAD = CoastThree.BAD, FULL = CoastThree.FULL, NONE = CoastThree.NONE;
    private static final Due due = new Due();

    public static void main(String[] args) {
        tapeIsFed();
        tapeIsTrimmed();
        textsAreRead();
        faults();
        depths();
        everyByte();
        tapeIsUsedUp();
        textsAreFull();
        values();
        textsTold();
        theLastCounts();
        due.end();
    }

    private static void tapeIsFed() {
        CoastThree x = new CoastThree();
        for (int i = 1; i <= 8; i++) {
            due.is("7: how many", x.feed(-1, i, Integer.MIN_VALUE), 12 * i);
        }
        due.is("7: more than 96", x.feed(0, 0, 0), FULL);
        due.is("7: nothing came", x.count(7), 96);
        x.trim(85);
        due.is("7: 97", x.feed(0, 0, 0), FULL);
        x.trim(84);
        due.is("7: 96 again", x.feed(0, 0, 0), 96);
        x.trim(0);
        x.feed(0x6e656564, 0x6c652032, 0x20286f29);
        due.is("7: the highest first", x.law(), 0);
        due.is("7: a needle", x.of(0, 0), 1);
    }

    private static void tapeIsTrimmed() {
        CoastThree x = new CoastThree();
        due.is("8: nothing", x.trim(0), 0);
        due.is("8: above", x.trim(1), BAD);
        x.feed(1, 2, 3);
        due.is("8: above 12", x.trim(13), BAD);
        due.is("8: below", x.trim(-1), BAD);
        due.is("8: extreme", x.trim(Integer.MIN_VALUE), BAD);
        due.is("8: all", x.trim(12), 12);
        due.is("8: some", x.trim(5), 5);
        due.is("8: kept", x.count(7), 5);
        due.is("8: not back", x.trim(6), BAD);
        CoastThree y = new CoastThree();
        Tape.put(y, "log 0 d*zzz");
        y.trim(8);
        Tape.put(y, "2");
        due.is("8: fed behind what is kept", y.law(), 0);
        y.mark(0, 70, 0, 0);
        due.is("8: read so", y.told(0, 10), 140);
    }

    private static void textsAreRead() {
        String[] good = {"log 0 d", "needle 1 o", "watch 2 a", "  log   0002   9999  ", "log 2(d)", "log 0!a",
            "log 1 ((d<a)=(a>d))", "needle 0 !!o|!d&!a", "log 0 d<a|d=a&d>5", "log 0 1+2-3*4/5", "watch 1 ( ! ( a ) )"};
        for (String text : good) {
            due.is("9: " + text, Tape.law(new CoastThree(), text), 0);
        }
    }

    private static void fault(String text, int place) {
        due.is("9: fault of '" + text + "'", Tape.law(new CoastThree(), text), -100 - place);
    }

    private static void faults() {
        fault("", 0);
        fault("    ", 4);
        fault("lo 1 d", 0);
        fault("  logs 1 d", 2);
        fault("Log 1 d", 0);
        fault("1 log d", 0);
        fault("( log", 0);
        fault("log", 3);
        fault("log  ", 5);
        fault("log d", 4);
        fault("log !", 4);
        fault("log 3 d", 4);
        fault("log 0003 d", 4);
        fault("log 00000 d", 4);
        fault("log1 d", 3);
        fault("log1", 3);
        fault("log 1", 5);
        fault("log 1   ", 8);
        fault("log 1d", 5);
        fault("log 12d", 4);
        fault("log 1 da", 6);
        fault("log 1 o", 6);
        fault("watch 1 d+o", 10);
        fault("needle 1 x", 9);
        fault("log 1 12345", 6);
        fault("log 1 1234d", 10);
        fault("log 1 d5", 7);
        fault("log 1 d d", 8);
        fault("log 1 d 5", 8);
        fault("log 1 d!d", 7);
        fault("log 1 d(d)", 7);
        fault("log 1 (d)d", 9);
        fault("log 1 (d", 8);
        fault("log 1 (d ", 9);
        fault("log 1 d)", 7);
        fault("log 1 ()", 7);
        fault("log 1 (d))", 9);
        fault("log 1 +d", 6);
        fault("log 1 -1", 6);
        fault("log 1 d+", 8);
        fault("log 1 d*/d", 8);
        fault("log 1 d==d", 8);
        fault("log 1 d<a<d", 9);
        fault("log 1 d<a=d", 9);
        fault("log 1 d&&a", 8);
        fault("log 1 d|", 8);
        fault("log 1 !", 7);
        fault("log 1 d#", 7);
        fault("log 1 (d<a=d)", 10);
        fault("log 1 d<(a<d)<5", 13);
        fault("log 1 d\tD", 7);
    }

    private static String times(String s, int n) {
        return s.repeat(n);
    }

    private static void depths() {
        due.is("9: eight (", Tape.law(new CoastThree(), "log 0 " + times("(", 8) + "d" + times(")", 8)), 0);
        fault("log 0 " + times("(", 9) + "d" + times(")", 9), 14);
        due.is("9: eight !", Tape.law(new CoastThree(), "log 0 " + times("!", 8) + "d"), 0);
        fault("log 0 " + times("!", 9) + "d", 14);
        due.is("9: each by itself", Tape.law(new CoastThree(), "log 0 " + times("!(", 8) + "d" + times(")", 8)), 0);
        fault("log 0 " + times("!(", 8) + "!d" + times(")", 8), 22);
        fault("log 0 " + times("!", 8) + "(a+!d)", 17);
        due.is("9: many, one behind the other",
                Tape.law(new CoastThree(), "log 0 " + times("(d)+", 10) + times("!(!d)+", 8) + "1"), 0);
        due.is("9: closed ones count no more", Tape.law(new CoastThree(),
                "log 0 " + times("(", 8) + "d" + times(")", 8) + "+" + times("(", 8) + "d" + times(")", 8)), 0);
        due.is("9: ! of a bracket closed with it", Tape.law(new CoastThree(),
                "log 0 " + times("!", 8) + "(d)+" + times("!", 8) + "(a)"), 0);
        due.is("9: 96 bytes", Tape.law(new CoastThree(),
                "log 0 " + times("(", 8) + "d" + times("+d", 36) + times(")", 8) + " "), 0);
        due.is("9: the longest chain", Tape.law(new CoastThree(), "log 0 1" + times("-d", 44)), 0);
    }

    /** Every byte behind a name: a sign that joins two pieces, a blank, a letter that makes the name a word, or a fault. */
    private static void everyByte() {
        for (int b = 0; b < 256; b++) {
            boolean joins = "|&<=>+-*/".indexOf((char) b) >= 0;
            int want = joins ? 0 : b == ' ' ? -108 : b >= 'a' && b <= 'z' ? -106 : -107;
            due.is("9: byte " + b, Tape.law(new CoastThree(), "log 0 d" + (char) b + "(a)"), want);
        }
    }

    private static void tapeIsUsedUp() {
        CoastThree x = new CoastThree();
        Tape.law(x, "log 0 d");
        due.is("9: used up", x.count(7), 0);
        Tape.law(x, "log 0 ?");
        due.is("9: used up by a fault", x.count(7), 0);
        due.is("9: empty", x.law(), -100);
        due.is("9: a fault is no text", x.count(2), 1);
        String[] faulty = {"log 0 da", "log", "lo", "log 5", "log 12345", "log1", "log 0 (((", "log 0 !!!", "log 0 (!(", ""};
        for (int i = 0; i < faulty.length; i++) {
            Tape.law(x, faulty[i]);
            due.is("9: a good one behind '" + faulty[i] + "'", Tape.law(x, "log 0 !(((((((!d)))))))"), i + 1);
        }
    }

    private static void textsAreFull() {
        CoastThree x = new CoastThree();
        for (int i = 0; i < 14; i++) {
            due.is("9: number", Tape.law(x, "log 0 " + i), i);
        }
        due.is("9: the fifteenth", Tape.law(x, "log 0 5"), FULL);
        due.is("9: used up by FULL", x.count(7), 0);
        due.is("9: a fault ahead of FULL", Tape.law(x, "log 0 d d"), -108);
        due.is("9: still 14", x.count(2), 14);
        due.is("11: still the last that came", x.why(0, 0), 13);
    }

    /** Day 7, at 300, off -20; the needle shows -200 .. 200 of what is worked out. */
    private static void value(String e, int want) {
        CoastThree x = new CoastThree();
        x.mark(2, 107, 300, -20);
        due.is("9: " + e, Tape.law(x, "needle 1 " + e), 0);
        due.is("3: " + e, x.told(0, 11), want);
    }

    private static void values() {
        value("d", 7);
        value("a-299", 1);
        value("o", -20);
        value("10-3-2", 5);
        value("100/7/2", 7);
        value("2+3*4", 14);
        value("(2+3)*4", 20);
        value("o/7", -2);
        value("0-7/2", -3);
        value("d/0", 0);
        value("d/(a-300)", 0);
        value("7*d/3*2", 32);
        value("d<8", 1);
        value("d<7", 0);
        value("d>6", 1);
        value("d>7", 0);
        value("d=7", 1);
        value("d=8", 0);
        value("5&o", 1);
        value("5&0", 0);
        value("0|o", 1);
        value("0|0", 0);
        value("5", 5);
        value("(5)", 5);
        value("!5", 0);
        value("!0", 1);
        value("!!5", 1);
        value("!5+3", 3);
        value("!(5-5)*4", 4);
        value("1|0&0", 1);
        value("(1|0)&0", 0);
        value("1+1=2", 1);
        value("2=1+1&0", 0);
        value("d<8&a>299|0", 1);
        value("(d<8)+(d<9)+(d<3)", 2);
        value("9999*9999*9999", -200);
        value("9999*9999*43-9999*9999*43+3", 3);
        value("9999*9999*21+9999*4790+8416+1<0", 1);
        value("(0-9999*9999*21-9999*4790-8416-1)/(0-1)<0", 1);
        value("(0-9999*9999*21-9999*4790-8416-1)-1>0", 1);
    }

    private static void textsTold() {
        CoastThree x = new CoastThree();
        Tape.law(x, "log 2 d");
        Tape.law(x, "needle 1 (o+a*d-17)/!3|0");
        Tape.law(x, "watch 0 ((12<a))&d");
        int[][] want = {{0, 2, 1}, {1, 1, 6}, {2, 0, 3}};
        for (int t = 0; t < 3; t++) {
            for (int what = 0; what < 3; what++) {
                due.is("10: of " + t + " " + what, x.of(t, what), want[t][what]);
            }
            due.is("10: what below", x.of(t, -1), BAD);
            due.is("10: what above", x.of(t, 3), BAD);
        }
        due.is("10: text below", x.of(-1, 0), BAD);
        due.is("10: text above", x.of(3, 0), BAD);
    }

    private static void theLastCounts() {
        CoastThree x = new CoastThree();
        x.mark(0, 110, 0, 0);
        Tape.law(x, "log 1 50");
        Tape.law(x, "log 1 60");
        Tape.law(x, "log 2 70");
        Tape.law(x, "watch 1 80");
        due.is("11: the last", x.why(1, 0), 1);
        due.is("11: another voyage", x.why(2, 0), 2);
        due.is("11: another key", x.why(1, 2), 3);
        due.is("11: none", x.why(1, 1), NONE);
        due.is("11: none of 0", x.why(0, 0), NONE);
        due.is("11: it counts", x.told(0, 10), 60);
        int[][] bad = {{-1, 0}, {3, 0}, {0, -1}, {0, 3}, {Integer.MIN_VALUE, Integer.MAX_VALUE}};
        for (int[] b : bad) {
            due.is("11: BAD", x.why(b[0], b[1]), BAD);
        }
    }
}
