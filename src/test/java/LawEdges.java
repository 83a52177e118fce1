/** Sentences on the tape and on laws: terms 2, promises 7 to 11. */
final class LawEdges {
    private static final int BAD = CoastThree.BAD, FULL = CoastThree.FULL, NONE = CoastThree.NONE;
    private static final String LARGEST = "9999*9999*21+9999*4790+8416";
    private static final String LEAST = "(" + LARGEST + "+1)";
    private final Document doc;

    private LawEdges(Document document) {
        doc = document;
    }

    static void all(Document document) {
        LawEdges edges = new LawEdges(document);
        edges.fourteen();
        edges.theTape();
        edges.theWhole();
        edges.keysAndVoyages();
        edges.loosestFirst();
        edges.sumsAndTerms();
        edges.pieces();
        edges.names();
        edges.words();
        edges.signs();
        edges.blanks();
        edges.faults();
        edges.open();
        edges.theEnd();
        edges.wrapping();
        edges.truth();
        edges.theLast();
        edges.feed();
        edges.trim();
        edges.law();
        edges.of();
        edges.why();
    }

    private void good(String text) {
        doc.is("\"" + text + "\"", Tape.law(new CoastThree(), text), 0);
    }

    private void fault(String text, int place) {
        doc.is("\"" + text + "\"", Tape.law(new CoastThree(), text), -100 - place);
    }

    /** Of day 7, at 300, off -20; within -200 .. 200 the needle shows what is worked out. */
    private void value(String e, int want) {
        CoastThree x = new CoastThree();
        x.mark(2, 107, 300, -20);
        doc.is("\"" + e + "\" is read", Tape.law(x, "needle 1 " + e), 0);
        doc.is("\"" + e + "\"", x.told(0, 11), want);
    }

    private void fourteen() {
        doc.term(2, "TEXTS, 14 at most, numbered from 0,");
        CoastThree x = new CoastThree();
        for (int i = 0; i < 14; i++) {
            doc.is("text " + i, Tape.law(x, "watch 2 " + i), i);
        }
        doc.is("the fifteenth", Tape.law(x, "watch 2 14"), FULL);
        doc.is("count(2)", x.count(2), 14);
        doc.is("of(13, 0)", x.of(13, 0), 2);
        doc.is("of(14, 0)", x.of(14, 0), BAD);
    }

    private void theTape() {
        doc.term(2, "from THE TAPE (96 bytes at most; an act that reads it uses it up, whatever it answers):");
        CoastThree x = new CoastThree();
        String longest = "log 0 " + "(1)+".repeat(22) + "10";
        doc.is("its length", longest.length(), 96);
        Tape.put(x, longest);
        doc.is("96 bytes", x.count(7), 96);
        doc.is("more", x.feed(0, 0, 0), FULL);
        doc.is("read", x.law(), 0);
        doc.is("used up", x.count(7), 0);
        x.mark(1, 0, 100, 0);
        doc.is("read to its end", x.told(0, 10), 32);
        Tape.put(x, "log 0 ?");
        doc.is("a fault", x.law(), -106);
        doc.is("used up by a fault", x.count(7), 0);
        doc.is("nothing is left", x.law(), -100);
        doc.is("a fault of a word", Tape.law(x, "log 0 xyz"), -106);
        doc.is("the next one begins anew", Tape.law(x, "log 0 d"), 1);
        doc.is("a fault of open ones", Tape.law(x, "log 0 ((((!!!!"), -114);
        doc.is("none is open in the next", Tape.law(x, "log 0 ((((((((!!!!!!!!d))))))))"), 2);
        for (int i = 3; i < 14; i++) {
            Tape.law(x, "log 0 1");
        }
        Tape.put(x, "log 0 2");
        doc.is("no room", x.law(), FULL);
        doc.is("used up by FULL", x.count(7), 0);
    }

    private void theWhole() {
        doc.term(2, "KEY V E.");
        good("log 1 d");
        fault("1 log d", 0);
        fault("d", 0);
        fault("log d", 4);
        fault("log log 1 d", 4);
        fault("log 1 2 3", 8);
        fault("log 1 d log 1 d", 8);
    }

    private void keysAndVoyages() {
        doc.term(2, "KEY: log | needle | watch.");
        good("log 0 1");
        good("needle 0 1");
        good("watch 0 1");
        String[] none = {"lo 0 1", "logs 0 1", "ogl 0 1", "needl 0 1", "needles 0 1", "watc 0 1", "watchs 0 1", "LOG 0 1", "d 0 1", "0 0 1"};
        for (String text : none) {
            fault(text, 0);
        }
        doc.term(2, "V: a NUMBER, 0 .. 2.");
        String[] voyages = {"0", "1", "2", "00", "02", "0000", "0002"};
        for (String v : voyages) {
            CoastThree x = new CoastThree();
            doc.is("log " + v + " 1", Tape.law(x, "log " + v + " 1"), 0);
            doc.is("voyage of " + v, x.of(0, 1), v.charAt(v.length() - 1) - '0');
        }
        String[] others = {"3", "9", "10", "0003", "9999", "00000", "00001", "!1", "(1)", "-1", "d"};
        for (String v : others) {
            fault("log " + v + " 1", 4);
        }
    }

    private void loosestFirst() {
        doc.term(2, "E, the loosest first: OR: AND { | AND };");
        value("1|0&0", 1);
        value("0&0|1", 1);
        value("0|0|0|5", 1);
        fault("log 0 |d", 6);
        fault("log 0 d|", 8);
        fault("log 0 d||d", 8);
        doc.term(2, "AND: TEST { & TEST };");
        value("1&2=2", 1);
        value("0=1&0", 0);
        value("1&1&1&0", 0);
        fault("log 0 &d", 6);
        fault("log 0 d&", 8);
        fault("log 0 d&&d", 8);
        doc.term(2, "TEST: SUM [ (< | = | >) SUM ];");
        value("3", 3);
        value("2+1=3", 1);
        value("3<2+2", 1);
        value("2+2>3", 1);
        value("(1<2)<2", 1);
        String[] signs = {"<", "=", ">"};
        for (String one : signs) {
            fault("log 0 " + one + "d", 6);
            fault("log 0 d" + one, 8);
            for (String other : signs) {
                fault("log 0 d" + one + other + "d", 8);
                fault("log 0 d" + one + "d" + other + "d", 9);
                good("log 0 d" + one + "d&d" + other + "d|d" + one + "d");
            }
        }
    }

    private void sumsAndTerms() {
        doc.term(2, "SUM: TERM { (+ | -) TERM };");
        value("10-3-2", 5);
        value("10-3+2", 9);
        value("1+2*3", 7);
        value("2*3+1", 7);
        fault("log 0 -d", 6);
        fault("log 0 +d", 6);
        fault("log 0 d+", 8);
        fault("log 0 d--d", 8);
        doc.term(2, "TERM: PIECE { (* | /) PIECE };");
        value("100/7/2", 7);
        value("7/2*2", 6);
        value("2*7/2", 7);
        fault("log 0 *d", 6);
        fault("log 0 d/", 8);
        fault("log 0 d*/d", 8);
    }

    private void pieces() {
        doc.term(2, "PIECE: NUMBER (1 to 4 digits) | NAME | ! PIECE | ( E ).");
        value("0", 0);
        value("0000", 0);
        value("0199", 199);
        value("9999-9998", 1);
        fault("log 0 10000", 6);
        fault("log 0 00000", 6);
        fault("log 0 (12345)", 7);
        value("!0+5", 6);
        value("!(0+5)", 0);
        value("5+!0", 6);
        value("2*!0*(3+!5)", 6);
        value("!!!0", 1);
        value("(1|1)+1", 2);
        fault("log 0 !", 7);
        fault("log 0 !*", 7);
        fault("log 0 ()", 7);
        fault("log 0 )", 6);
        fault("log 0 (d))", 9);
        fault("log 0 d!", 7);
        fault("log 0 d(d)", 7);
    }

    private void names() {
        doc.term(2, "NAMES, each one letter: d DAY, a AT, and of needle o OFF.");
        value("d", 7);
        value("a-299", 1);
        value("o", -20);
        good("log 0 d+a");
        good("watch 0 d+a");
        fault("log 0 o", 6);
        fault("watch 0 d*o", 10);
        for (char c = 'a'; c <= 'z'; c++) {
            if (c != 'd' && c != 'a' && c != 'o') {
                fault("needle 0 " + c, 9);
            }
            fault("needle 0 d" + c, 9);
        }
    }

    private void words() {
        doc.term(2, "A word is a row of letters a .. z, or of digits, as long as it goes;");
        fault("log 0 dd", 6);
        fault("log 0 zd", 6);
        fault("log 0 az", 6);
        fault("logneedle 0 d", 0);
        fault("log 0 1234567890", 6);
        fault("log 0123 d", 4);
        good("log 0 1234");
        good("log 0 0989");
    }

    /** Those right beside the letters and the digits, and both ends of a byte, among all of them. */
    private void signs() {
        doc.term(2, "any other byte is a sign by itself.");
        for (int b = 0; b < 256; b++) {
            char c = (char) b;
            if (c >= 'a' && c <= 'z' || c >= '0' && c <= '9' || c == ' ') {
                continue;
            }
            boolean joins = "|&<=>+-*/".indexOf(c) >= 0;
            doc.is("byte " + b + " behind a name", Tape.law(new CoastThree(), "log 0 d" + c + "(5)"), joins ? 0 : -107);
            doc.is("byte " + b + " for a KEY", Tape.law(new CoastThree(), c + "log 0 d"), -100);
            doc.is("byte " + b + " for a V", Tape.law(new CoastThree(), "log" + c + "0 d"), -103);
            boolean opens = c == '!' || c == '(';
            doc.is("byte " + b + " for a PIECE", Tape.law(new CoastThree(), "log 0" + c + "d)"), c == '(' ? 0 : opens ? -107 : -105);
        }
    }

    private void blanks() {
        doc.term(2, "Between words and signs, and at the ends, there may be blanks (byte 32);");
        good("log 0 d+(a-!5)");
        good("   log   0   d   +   (   a   -   !   5   )   ");
        good("log 0(d)");
        good("log 0!d");
        good("log 0 d ");
        good(" log 0 d");
        int[] others = {0, 9, 10, 11, 12, 13, 31, 33 + 94, 160};
        for (int b : others) {
            fault("log 0" + (char) b + "d", 5);
            fault("log 0 d" + (char) b, 7);
        }
        fault("log 0 1 2", 8);
        fault("log 0 d<   =d", 11);
        doc.term(2, "a word right behind another one needs one.");
        fault("log0 d", 3);
        fault("log 0d", 5);
        fault("log 0 d5", 7);
        fault("log 0 5d", 7);
        good("log 0 5+d");
        good("log 0 (d)");
    }

    private void faults() {
        doc.term(2, "FAULT: the first byte of the first word or sign with which no TEXT goes on");
        fault("log 0 xyz", 6);
        fault("log 0 d xyz", 8);
        fault("log 0 d ? ?", 8);
        fault("? log 0 d", 0);
        fault("    12 log", 4);
        doc.term(2, "(a word that needs a blank ahead of it,");
        fault("watch2 d", 5);
        fault("watch2", 5);
        fault("watch3 d", 5);
        fault("watch 2d", 7);
        fault("watch 2 a1", 9);
        fault("watch 2 1a", 9);
        fault("watch 2 1x", 9);
        fault("watch 2 (a1)", 10);
        doc.term(2, "a V above 2,");
        fault("watch 3 d", 6);
        fault("watch 0003 d", 6);
        fault("watch 9999", 6);
        fault("watch 3d", 6);
        good("watch 2 d");
        doc.term(2, "a NUMBER of more than 4 digits,");
        fault("watch 0 00001", 8);
        fault("watch 0 99999+d", 8);
        fault("watch 0 d+12345", 10);
        fault("watch 00000 d", 6);
        fault("watch 0 d+4294967296", 10);
        fault("watch 0 (d 00041", 11);
        fault("watch 0 00040d)", 8);
        fault("watch 0 d 00043 d", 10);
        good("watch 0 d+1234");
    }

    private static String within(String open, int n, String inner, String close) {
        return "log 0 " + open.repeat(n) + inner + close.repeat(n);
    }

    private void open() {
        doc.term(2, "the ninth ( that would be open within others,");
        good(within("(", 8, "d", ")"));
        fault(within("(", 9, "d", ")"), 14);
        fault(within("(", 8, "d+(d)", ")"), 16);
        fault(within("(", 8, "(", ""), 14);
        good("log 0 " + "(d)+".repeat(20) + "(d)");
        good(within("(", 8, "d", ")") + "+" + "(".repeat(8) + "d" + ")".repeat(8));
        good(within("(", 7, "(d)+(d)", ")"));
        fault(within("(", 7, "(d)+((d))", ")"), 18);
        doc.term(2, "the ninth ! likewise, each by itself);");
        good(within("!", 8, "d", ""));
        fault(within("!", 9, "d", ""), 14);
        good("log 0 " + "!d+".repeat(20) + "!d");
        good(within("!(", 8, "d", ")"));
        fault(within("!(", 8, "!d", ")"), 22);
        fault(within("!(", 8, "(d)", ")"), 22);
        fault("log 0 " + "!".repeat(8) + "(!d)", 15);
        good("log 0 " + "!".repeat(8) + "(d)+" + "!".repeat(8) + "d");
        good("log 0 " + "!".repeat(8) + "d*" + "!".repeat(8) + "(d)");
    }

    private void theEnd() {
        doc.term(2, "the end (the place behind the last byte), if it comes too soon.");
        String[] soon = {"", " ", "   ", "log", "log ", "needle", "log 0", "log 0   ", "log 0 (", "log 0 (d", "log 0 (d ", "log 0 !",
            "log 0 d+", "log 0 d<", "log 0 d&", "log 0 d|", "log 0 d*   ", "log 0 ((d)"};
        for (String text : soon) {
            fault(text, text.length());
        }
        String full = "log 0 " + "d+".repeat(45);
        doc.is("its length", full.length(), 96);
        fault(full, 96);
        fault(full.substring(0, 95) + "?", 95);
        good(full.substring(0, 95) + " ");
        good(" " + full.substring(0, 95));
        good(" " + full.substring(0, 94) + "5");
    }

    private void wrapping() {
        doc.term(2, "Ints wrap;");
        value(LARGEST + ">0", 1);
        value(LEAST + "<0", 1);
        value(LEAST + "-1>0", 1);
        value("9999*9999*9999<0", 1);
        value("9999*9999*43-9999*9999*43+3", 3);
        value(LEAST + "/(0-1)=" + LEAST, 1);
        doc.term(2, "/ is 0 by 0;");
        value("7/0", 0);
        value("0/0", 0);
        value("5+7/(d-7)", 5);
        value("0-7/(a-300)+4", 4);
        value("7/0*3+1", 1);
    }

    private void truth() {
        doc.term(2, "tests, & | ! give 1 or 0 (what is not 0 is true; both sides are worked out).");
        value("6<7", 1);
        value("7<7", 0);
        value("8<7", 0);
        value("6>7", 0);
        value("7>7", 0);
        value("8>7", 1);
        value("6=7", 0);
        value("7=7", 1);
        value("o&9", 1);
        value("9&0", 0);
        value("0&9", 0);
        value("0&0", 0);
        value("o|0", 1);
        value("0|o", 1);
        value("9|9", 1);
        value("0|0", 0);
        value("!o", 0);
        value("!0", 1);
        value("!!o", 1);
        value("(5&3)+(5|3)+(2<3)", 3);
        value("0&1/0", 0);
        value("1|1/0", 1);
    }

    private void theLast() {
        doc.term(2, "Of a VOYAGE and a KEY that TEXT counts that was told last.");
        CoastThree x = new CoastThree();
        x.mark(0, 210, 0, 0);
        for (int i = 0; i < 14; i++) {
            Tape.law(x, "log 2 " + (50 + i));
            doc.is("told after " + i, x.told(0, 10), 50 + i);
        }
        Tape.law(x, "log 2 1");
        doc.is("one that was refused", x.told(0, 10), 63);
        Tape.law(x, "log 2 ?");
        doc.is("one with a FAULT", x.told(0, 10), 63);
    }

    private void feed() {
        doc.promise(7, "Twelve bytes come to THE TAPE, the highest of each number first: how many it has.");
        CoastThree x = new CoastThree();
        doc.is("the first twelve", x.feed(0x77617463, 0x68203220, 0x612b3133), 12);
        doc.is("twelve more", x.feed(0x37202020, 0x20202020, 0x20202020), 24);
        doc.is("watch 2 a+137", x.law(), 0);
        x.mark(0, 200, 5, 0);
        doc.is("in that order", x.told(0, 12), 142);
        doc.is("from an empty tape", x.feed(-1, Integer.MIN_VALUE, 255), 12);
        doc.is("bytes above 127", x.law(), -100);
        doc.promise(7, "FULL: it would have more than 96.");
        for (int kept = 0; kept <= 96; kept++) {
            CoastThree y = new CoastThree();
            for (int i = 0; i < 8; i++) {
                y.feed(0, 0, 0);
            }
            y.trim(kept);
            doc.is("behind " + kept, y.feed(0, 0, 0), kept > 84 ? FULL : kept + 12);
            doc.is("then", y.count(7), kept > 84 ? kept : kept + 12);
        }
    }

    private void trim() {
        doc.promise(8, "THE TAPE keeps its first n bytes: n.");
        CoastThree x = new CoastThree();
        Tape.put(x, "log 0 17????");
        doc.is("all", x.trim(12), 12);
        doc.is("some", x.trim(8), 8);
        doc.is("the first", x.law(), 0);
        doc.is("none of none", x.trim(0), 0);
        Tape.put(x, "log 0 dddddd");
        x.trim(7);
        doc.is("letters are cut off", x.law(), 1);
        Tape.put(x, "log 0 999999");
        x.trim(9);
        doc.is("digits are cut off", x.law(), 2);
        Tape.put(x, "log 0 5     ");
        x.trim(8);
        doc.is("blanks are cut off", x.law(), 3);
        Tape.put(x, "log     0 5 ");
        x.trim(5);
        doc.is("all but a KEY is cut off", x.law(), -105);
        doc.promise(8, "BAD.");
        doc.edges("of none", BAD, 0, 0, n -> new CoastThree().trim(n), 0, 0);
        doc.edges("of twelve", BAD, 0, 12, LawEdges::trimmed, 0, 12);
        Tape.put(x, "log 0 18");
        doc.is("what was cut off is not there", x.trim(9), BAD);
        doc.is("it keeps all", x.count(7), 8);
    }

    private static int trimmed(int n) {
        CoastThree x = new CoastThree();
        x.feed(0, 0, 0);
        return x.trim(n);
    }

    private void law() {
        doc.promise(9, "THE TAPE is a TEXT: its number.");
        CoastThree x = new CoastThree();
        doc.is("the first", Tape.law(x, "log 0 d"), 0);
        doc.is("just like it", Tape.law(x, "log 0 d"), 1);
        doc.promise(9, "-100 less the place of its FAULT;");
        doc.is("at 0", Tape.law(x, "?"), -100);
        doc.is("of an empty tape", x.law(), -100);
        doc.is("at 7", Tape.law(x, "log 0 d?"), -107);
        doc.is("it is no TEXT", x.count(2), 2);
        doc.is("the next one", Tape.law(x, "log 0 d"), 2);
        doc.promise(9, "FULL.");
        for (int i = 3; i < 14; i++) {
            Tape.law(x, "needle 1 o");
        }
        doc.is("no room", Tape.law(x, "log 0 d"), FULL);
        doc.is("a FAULT first", Tape.law(x, "log 0 d?"), -107);
        doc.is("none came", x.count(2), 14);
    }

    private void of() {
        doc.promise(10, "Of a TEXT: what 0 KEY (0 log, 1 needle, 2 watch), 1 VOYAGE, 2 how many NUMBERS and NAMES it has (V not).");
        String[] texts = {"log 0 d", "needle 1 !((o))", "watch 2 1+2*3-d/a<5&6|!7", "log 2 " + "1+".repeat(44) + "1"};
        int[][] want = {{0, 0, 1}, {1, 1, 1}, {2, 2, 8}, {0, 2, 45}};
        CoastThree x = new CoastThree();
        for (int t = 0; t < texts.length; t++) {
            Tape.law(x, texts[t]);
            for (int what = 0; what < 3; what++) {
                doc.is("of(" + t + ", " + what + ")", x.of(t, what), want[t][what]);
            }
        }
        doc.promise(10, "BAD.");
        doc.edges("of(text, 1)", BAD, 0, 3, t -> x.of(t, 1), 0, 2);
        doc.edges("of(3, what)", BAD, 0, 2, what -> x.of(3, what), 0, 45);
        doc.is("no TEXT at all", new CoastThree().of(0, 0), BAD);
    }

    private void why() {
        doc.promise(11, "The TEXT that counts for a VOYAGE and a KEY.");
        CoastThree x = new CoastThree();
        String[] keys = {"log", "needle", "watch"};
        for (int i = 0; i < 14; i++) {
            Tape.law(x, keys[i % 9 / 3] + " " + i % 3 + " 1");
        }
        for (int v = 0; v < 3; v++) {
            for (int key = 0; key < 3; key++) {
                int first = 3 * key + v;
                doc.is("why(" + v + ", " + key + ")", x.why(v, key), first < 5 ? first + 9 : first);
            }
        }
        doc.promise(11, "BAD;");
        doc.edges("why(voyage, 0)", BAD, 0, 2, v -> x.why(v, 0), 9, 11);
        doc.edges("why(0, key)", BAD, 0, 2, key -> x.why(0, key), 9, 6);
        doc.promise(11, "NONE.");
        CoastThree y = new CoastThree();
        doc.is("no TEXT at all", y.why(2, 2), NONE);
        Tape.law(y, "needle 1 1");
        for (int i = 0; i < 9; i++) {
            doc.is("why(" + i % 3 + ", " + i / 3 + ")", y.why(i % 3, i / 3), i == 4 ? 0 : NONE);
        }
    }
}
