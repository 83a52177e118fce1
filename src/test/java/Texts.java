import java.util.Random;

/** Texts of laws, drawn: good ones, and ones that are nearly so. */
final class Texts {
    private static final String[] KEYS = {"log", "needle", "watch"};

    private Texts() {
    }

    /** A text of at most 96 bytes that has no fault. */
    static String good(Random random) {
        int key = random.nextInt(3);
        String start = KEYS[key] + blanks(random, 1) + random.nextInt(3) + blanks(random, 1);
        String text = start + sum(random, key, 3);
        while (text.length() > 96) {
            text = start + sum(random, key, 1);
        }
        return text;
    }

    /** Some signs of a good one left out, put in or changed. */
    static String near(Random random) {
        StringBuilder text = new StringBuilder(good(random));
        String signs = "()!|&<=>+-*/ 0123dao?x\u00e9\u0000";
        for (int i = random.nextInt(3); i > 0; i--) {
            int at = random.nextInt(text.length());
            char sign = signs.charAt(random.nextInt(signs.length()));
            switch (random.nextInt(4)) {
                case 0 -> text.deleteCharAt(at);
                case 1 -> text.insert(at, sign);
                case 2 -> text.setCharAt(at, sign);
                default -> text.insert(at, String.valueOf(random.nextBoolean() ? '(' : '!').repeat(1 + random.nextInt(9)));
            }
        }
        return text.substring(0, Math.min(96, text.length()));
    }

    private static String blanks(Random random, int least) {
        return " ".repeat(least + (random.nextInt(4) == 0 ? random.nextInt(3) : 0));
    }

    private static String sum(Random random, int key, int depth) {
        StringBuilder text = new StringBuilder(piece(random, key, depth));
        boolean compared = false;
        for (int i = random.nextInt(4); i > 0; i--) {
            String sign = "|&<=>+-*/".substring(random.nextInt(9)).substring(0, 1);
            if ("<=>".contains(sign)) {
                sign = compared ? "+" : sign;
                compared = true;
            } else if ("|&".contains(sign)) {
                compared = false;
            }
            text.append(blanks(random, 0)).append(sign).append(blanks(random, 0)).append(piece(random, key, depth));
        }
        return text.toString();
    }

    private static String piece(Random random, int key, int depth) {
        switch (random.nextInt(depth > 0 ? 7 : 4)) {
            case 0: return "d";
            case 1: return "a";
            case 2: return key == 1 ? "o" : "d";
            case 3: return String.valueOf(random.nextInt(random.nextBoolean() ? 10 : 10000));
            case 4: return "!" + piece(random, key, depth - 1);
            default: return "(" + sum(random, key, depth - 1) + ")";
        }
    }
}
