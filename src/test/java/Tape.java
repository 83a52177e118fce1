/** Brings texts to THE TAPE of an object, twelve bytes at a time. */
final class Tape {
    private Tape() {
    }

    /** Puts the text behind what the tape holds; its signs are bytes 0 .. 255. */
    static void put(CoastThree x, String text) {
        int held = x.count(7);
        for (int i = 0; i < text.length(); i += 12) {
            x.feed(four(text, i), four(text, i + 4), four(text, i + 8));
        }
        x.trim(held + text.length());
    }

    /** Puts the text on the tape, and reads it. */
    static int law(CoastThree x, String text) {
        put(x, text);
        return x.law();
    }

    static int four(String text, int from) {
        int v = 0;
        for (int i = from; i < from + 4; i++) {
            v = v << 8 | (i < text.length() ? text.charAt(i) : 0);
        }
        return v;
    }
}
