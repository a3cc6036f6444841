/** Feeds texts as the document's calls take them, twenty bytes at a time. */
final class Texts {
    private Texts() {
    }

    /** The tape is the text then; it must have been empty. */
    static void feed(BoatBridge x, String text) {
        StringBuilder all = new StringBuilder(text);
        while (all.length() % 20 != 0) {
            all.append(' ');
        }
        for (int i = 0; i < all.length(); i += 20) {
            x.feed(word(all, i), word(all, i + 4), word(all, i + 8), word(all, i + 12), word(all, i + 16));
        }
        x.end(text.length());
    }

    static int tell(BoatBridge x, String text) {
        feed(x, text);
        return x.tolls();
    }

    /** A text with blanks behind it up to a length. */
    static String upTo(int length, String text) {
        return text + " ".repeat(length - text.length());
    }

    private static int word(StringBuilder all, int from) {
        return all.charAt(from) << 24 | all.charAt(from + 1) << 16 | all.charAt(from + 2) << 8 | all.charAt(from + 3);
    }
}
