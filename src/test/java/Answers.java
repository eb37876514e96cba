import java.util.ArrayList;
import java.util.List;

/**
 * All that can be asked of an object, a line for each call: first what it shows, then what comes to
 * light by undoing its ACTS and reading its tape. At most some 320 calls, so that with those that
 * made the object they stay within the 512 of which the document speaks.
 */
final class Answers {
    private final LockedLetter x;
    private final List<String> all = new ArrayList<>();

    private Answers(LockedLetter x) {
        this.x = x;
    }

    static List<String> of(LockedLetter x) {
        Answers answers = new Answers(x);
        answers.askSheet();
        answers.askPrices();
        answers.askFinds();
        answers.askWay();
        answers.undoAll();
        answers.readTape();
        return answers.all;
    }

    /** The same, but for what place() told of the read ahead. */
    static List<String> butPlace(LockedLetter x) {
        List<String> answers = of(x);
        answers.removeIf(line -> line.startsWith("place() ahead"));
        return answers;
    }

    private void add(String call, long answer) {
        all.add(call + " = " + answer);
    }

    private void askSheet() {
        for (int what = 0; what <= 8; what++) {
            add("count(" + what + ")", x.count(what));
        }
        for (int p = 0; p < x.count(0); p++) {
            for (int what = 0; what <= 7; what++) {
                add("part(" + p + ", " + what + ")", x.part(p, what));
            }
            add("mark(" + p + ")", x.mark(p));
        }
        for (int c = 0; c < x.count(1); c++) {
            add("layers(" + c + ")", x.layers(c));
            for (int l = 0; l < x.layers(c); l++) {
                add("at(" + c + ", " + l + ")", x.at(c, l));
            }
        }
    }

    private void askPrices() {
        add("place() ahead", x.place());
        int acts = x.count(2);
        for (int act = 0; act < acts; act++) {
            add("harm(" + act + ")", x.harm(act));
            add("by(" + act + ")", x.by(act));
        }
        int parts = x.count(0);
        for (int p = 0; p < parts; p++) {
            add("ease(" + p + ")", x.ease(p));
            add("undone(" + p + ")", x.undone(p));
        }
    }

    private void askFinds() {
        add("rows()", x.rows());
        for (int i = 0; i < 5; i++) {
            add("row(" + i + ")", x.row(i));
        }
        add("shut()", x.shut());
    }

    private void askWay() {
        int looks = x.count(8);
        add("tale", x.tale(looks));
        add("tales", x.tales(looks));
        int days = x.count(7);
        for (int day = 0; day < days; day++) {
            add("told(" + day + ")", x.told(day, looks));
        }
        int hands = x.count(6);
        for (int hand = 0; hand < hands; hand++) {
            add("opened(" + hand + ")", x.opened(hand, looks));
        }
        add("turned(0)", x.turned(0));
    }

    private void undoAll() {
        int acts = x.count(2);
        for (int i = 0; i <= acts; i++) {
            add("undo()", x.undo());
            add("count(1) behind undo", x.count(1));
            add("part(0, 1) behind undo", x.part(0, 1));
        }
        for (int i = 0; i < x.count(0); i++) {
            add("mark(" + i + ") behind undo", x.mark(i));
        }
    }

    private void readTape() {
        add("read()", x.read());
        add("place()", x.place());
        add("rules behind it", x.count(3));
        add("fold", x.fold(1, true, true));
        add("harm behind it", x.harm(0));
        add("by behind it", x.by(0));
    }
}
