/** Turns texts into the numbers that feed takes. */
final class Tape {
    private Tape() {
    }

    /** Twenty bytes of a text from a place on, zeros behind its end. */
    static int[] five(String text, int from) {
        int[] five = new int[5];
        for (int i = 0; i < 20; i++) {
            int sign = from + i < text.length() ? text.charAt(from + i) & 255 : 0;
            five[i / 4] |= sign << 24 - i % 4 * 8;
        }
        return five;
    }

    /** The tape is this text then. */
    static void put(AskedCamp x, String text) {
        x.end(0);
        for (int i = 0; i < text.length(); i += 20) {
            int[] five = five(text, i);
            x.feed(five[0], five[1], five[2], five[3], five[4]);
        }
        x.end(text.length());
    }

    /** The answer to a text whose first FAULT is at a place, and of a kind. */
    static int fault(int place, int kind) {
        return -2 - (1 + 8 * place + kind);
    }

    /** A text with blanks behind it, so long that it has this size. */
    static String padded(String text, int size) {
        return text + " ".repeat(size - text.length());
    }

    static int camp(AskedCamp x, String text) {
        put(x, text);
        return x.camp();
    }

    static int rule(AskedCamp x, String text) {
        put(x, text);
        return x.rule();
    }
}
