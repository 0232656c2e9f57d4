/** Brings texts on a tape, 20 bytes a call. */
final class Texts {
    private Texts() { }

    /** Feeds a text and cuts the tape to its length; the tape must be empty before. */
    static void write(CanoeMaster x, String text) {
        for (int at = 0; at < text.length(); at += 20) {
            x.feed(word(text, at), word(text, at + 4), word(text, at + 8), word(text, at + 12), word(text, at + 16));
        }
        x.end(text.length());
    }

    /** Four bytes of a text as an int; what is behind the text is to be cut off. */
    static int word(CharSequence text, int from) {
        int word = 0;
        for (int i = from; i < from + 4; i++) {
            word = word << 8 | (i < text.length() ? text.charAt(i) : '?');
        }
        return word;
    }

    static int chant(CanoeMaster x, String text) {
        write(x, text);
        return x.chant();
    }
}
