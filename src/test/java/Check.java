import java.nio.charset.StandardCharsets;
import java.util.List;
import java.util.function.Consumer;
import java.util.function.ToLongFunction;

/** Counts the calls of a test whose answer is not the one that is due, and prints them. */
final class Check {
    private final String test;
    private int wrong;
    private int calls;

    Check(String test) {
        this.test = test;
    }

    void due(String call, long got, long want) {
        calls++;
        if (got != want) {
            wrong++;
            System.out.println(test + ": " + call + " answered " + got + ", due is " + want);
        }
    }

    void due(String call, boolean got, boolean want) {
        due(call, got ? 1 : 0, want ? 1 : 0);
    }

    /** A packet told as piles from the lowest LAYER on: a small letter for UP, a capital one for DOWN. */
    void packet(String what, LockedLetter x, String... piles) {
        due(what + ": columns", x.count(1), piles.length);
        for (int c = 0; c < piles.length; c++) {
            due(what + ": layers(" + c + ")", x.layers(c), piles[c].length());
            for (int l = 0; l < piles[c].length(); l++) {
                char sign = piles[c].charAt(l);
                int part = Character.toLowerCase(sign) - 'a';
                due(what + ": at(" + c + ", " + l + ")", x.at(c, l), part);
                due(what + ": part(" + part + ", 0)", x.part(part, 0), c);
                due(what + ": part(" + part + ", 1)", x.part(part, 1), l);
                due(what + ": part(" + part + ", 2)", x.part(part, 2), Character.isLowerCase(sign) ? 1 : 0);
            }
            due(what + ": at above", x.at(c, piles[c].length()), -1);
        }
        due(what + ": no more columns", x.layers(piles.length), -1);
    }

    void marks(String what, LockedLetter x, int... marks) {
        for (int i = 0; i < marks.length; i++) {
            due(what + ": mark(" + i + ")", x.mark(i), marks[i]);
        }
        due(what + ": no more marks", x.mark(marks.length), -1);
    }

    void dirt(String what, LockedLetter x, int... faces) {
        for (int face = 0; face < faces.length; face++) {
            due(what + ": face " + face, x.part(face / 2, 6 + face % 2), faces[face]);
        }
    }

    void sights(String what, LockedLetter x, int... due) {
        for (int p = 0; p < due.length; p++) {
            due(what + ": part(" + p + ", 5)", x.part(p, 5), due[p]);
        }
    }

    void row(String what, LockedLetter x, int... due) {
        for (int i = 0; i < due.length; i++) {
            due(what + ": row(" + i + ")", x.row(i), due[i]);
        }
        due(what + ": no more", x.row(due.length), -1);
        due(what + ": row(-1)", x.row(-1), -1);
        due(what + ": row(most)", x.row(Integer.MAX_VALUE), -1);
    }

    void told(String what, LockedLetter x, int n, String due) {
        for (int day = 0; day < due.length(); day++) {
            due(what + ": told(" + day + ", " + n + ")", x.told(day, n), due.charAt(day) - '0');
        }
        due(what + ": no more days", x.told(due.length(), n), -1);
        due(what + ": told(-1)", x.told(-1, n), -1);
    }

    void fault(String text, int fault, int place) {
        LockedLetter x = new LockedLetter();
        due("read of '" + text + "'", read(x, text), fault);
        due("place in '" + text + "'", x.place(), place);
    }

    /** A call that changes nothing: of two objects made alike, the one that got it answers all as the other does. */
    void refused(String call, Consumer<LockedLetter> making, ToLongFunction<LockedLetter> odd, long want) {
        LockedLetter asked = new LockedLetter();
        LockedLetter other = new LockedLetter();
        making.accept(asked);
        making.accept(other);
        due(call, odd.applyAsLong(asked), want);
        alike("behind " + call, Answers.of(asked), Answers.of(other));
    }

    void alike(String what, List<String> got, List<String> want) {
        for (int i = 0; i < Math.min(got.size(), want.size()); i++) {
            if (!got.get(i).equals(want.get(i))) {
                calls++;
                wrong++;
                System.out.println(test + ": " + what + ": " + got.get(i) + ", due is " + want.get(i));
                return;
            }
        }
        due(what + ": answers", got.size(), want.size());
    }

    static LockedLetter of(int parts) {
        LockedLetter x = new LockedLetter();
        x.sheet(parts);
        return x;
    }

    void end() {
        System.out.println(test + ": " + calls + " answers, " + wrong + " not as due");
        if (wrong != 0 || calls == 0) {
            System.exit(1);
        }
    }

    /** Feeds a text, twenty bytes a call, and takes back what was fed beyond its end. */
    static void feed(LockedLetter letter, String text) {
        byte[] bytes = text.getBytes(StandardCharsets.ISO_8859_1);
        int fed = 0;
        while (fed < bytes.length) {
            letter.feed(word(bytes, fed), word(bytes, fed + 4), word(bytes, fed + 8), word(bytes, fed + 12), word(bytes, fed + 16));
            fed += 20;
        }
        letter.back(fed - bytes.length);
    }

    static int word(byte[] bytes, int from) {
        int word = 0;
        for (int i = from; i < from + 4; i++) {
            word = word << 8 | (i < bytes.length ? bytes[i] & 255 : 'x');
        }
        return word;
    }

    /** Feeds a text and reads it. */
    static int read(LockedLetter letter, String text) {
        feed(letter, text);
        return letter.read();
    }
}
