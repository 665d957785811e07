/** Compares answers with those that are due, and feeds texts. */
final class Due {
    private int wrong = 0;
    private int asked = 0;
    private String sentence = "";

    /** The sentence of the document that is looked at from here on: wrong answers are told with it. */
    void about(String newSentence) {
        sentence = newSentence + " | ";
    }

    void is(String call, long got, long want) {
        asked++;
        if (got != want) {
            wrong++;
            System.out.println(sentence + call + " answered " + got + ", due is " + want);
        }
    }

    void is(String call, boolean got, boolean want) {
        is(call, got ? 1 : 0, want ? 1 : 0);
    }

    void is(String call, String got, String want) {
        asked++;
        if (!got.equals(want)) {
            wrong++;
            System.out.println(sentence + call + "\n  answered " + got + "\n  due is   " + want);
        }
    }

    void end() {
        System.out.println(asked + " answers, " + wrong + " not as due");
        if (wrong != 0 || asked == 0) {
            System.exit(1);
        }
    }

    /** Puts a text on the tape, which must have room for its last twenty bytes whole. */
    static void feed(AbsentLords x, byte[] text) {
        for (int at = 0; at < text.length; at += 20) {
            int[] w = words(text, at);
            x.feed(w[0], w[1], w[2], w[3], w[4]);
        }
        x.back((20 - text.length % 20) % 20);
    }

    /** Twenty bytes from a place on, with blanks behind the text. */
    static int[] words(byte[] text, int at) {
        return new int[] {word(text, at), word(text, at + 4), word(text, at + 8), word(text, at + 12), word(text, at + 16)};
    }

    private static int word(byte[] text, int at) {
        int word = 0;
        for (int i = at; i < at + 4; i++) {
            word = word << 8 | (i < text.length ? text[i] & 255 : ' ');
        }
        return word;
    }

    static byte[] bytes(String text) {
        byte[] bytes = new byte[text.length()];
        for (int i = 0; i < bytes.length; i++) {
            bytes[i] = (byte) text.charAt(i);
        }
        return bytes;
    }

    static int read(AbsentLords x, String text) {
        feed(x, bytes(text));
        return x.read();
    }

    /** A new object that has read a text without FAULT. */
    static AbsentLords county(String text) {
        AbsentLords x = new AbsentLords();
        int fault = read(x, text);
        if (fault != 0) {
            throw new IllegalStateException("fault " + fault + " at " + x.place() + " of: " + text);
        }
        return x;
    }
}
