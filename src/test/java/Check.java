import java.nio.charset.StandardCharsets;

/** Counts the calls of a test whose answer is not the one that is due, and prints them. */
final class Check {
    private final String test;
    private int wrong;
    private int calls;

    Check(String test) {
        this.test = test;
    }

    void due(String call, long got, long want) {
        calls++;
        if (got != want) {
            wrong++;
            System.out.println(test + ": " + call + " answered " + got + ", due is " + want);
        }
    }

    void due(String call, boolean got, boolean want) {
        due(call, got ? 1 : 0, want ? 1 : 0);
    }

    void end() {
        System.out.println(test + ": " + calls + " answers, " + wrong + " not as due");
        if (wrong != 0 || calls == 0) {
            System.exit(1);
        }
    }

    /** Feeds a text, twenty bytes a call, and takes back what was fed beyond its end. */
    static void feed(LockedLetter letter, String text) {
        byte[] bytes = text.getBytes(StandardCharsets.ISO_8859_1);
        int fed = 0;
        while (fed < bytes.length) {
            letter.feed(word(bytes, fed), word(bytes, fed + 4), word(bytes, fed + 8), word(bytes, fed + 12), word(bytes, fed + 16));
            fed += 20;
        }
        letter.back(fed - bytes.length);
    }

    static int word(byte[] bytes, int from) {
        int word = 0;
        for (int i = from; i < from + 4; i++) {
            word = word << 8 | (i < bytes.length ? bytes[i] & 255 : 'x');
        }
        return word;
    }

    /** Feeds a text and reads it. */
    static int read(LockedLetter letter, String text) {
        feed(letter, text);
        return letter.read();
    }
}
