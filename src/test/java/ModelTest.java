import java.util.Random;

/** Runs of calls by a fixed row of numbers, each answered by the class and by the plain model. */
public final class ModelTest {
    private static final String[] SORTS = {"harm", "cut", "trick", "peep", "opens", "doubt"};
    private static final String[] VARS = {"kind", "layers", "column", "number", "below"};
    private static final String[] ODD = {
        "=", "!", ">", "if", "or", "and", "(", ")", ";", "12345", "harmharmh", "0", "kind", "harm", "\u00e9", "==", "<=", "<", "+", "-", "Kind", "#", "\f", "k1", "peepx"};

    private static final int[] EDGES = {
        Integer.MIN_VALUE, Integer.MIN_VALUE + 1, -2, -1, 0, 1, 2, 3, 4, 5, 6, 7, 8, 9, 15, 16, 17, 31, 32, 33, 35, 36, 37, 39, 40, 41,
        Integer.MAX_VALUE - 1, Integer.MAX_VALUE};

    private final Check check = new Check("ModelTest");
    private final Random random;
    private LockedLetter letter;
    private Model model;
    private StringBuilder run;

    private ModelTest(long seed) {
        random = new Random(seed);
    }

    public static void main(String[] args) {
        int runs = args.length > 0 ? Integer.parseInt(args[0]) : 700;
        long seed = args.length > 1 ? Long.parseLong(args[1]) : 20261118;
        ModelTest test = new ModelTest(seed);
        for (int i = 0; i < runs; i++) {
            test.runOnce(i);
        }
        test.check.end();
    }

    private void runOnce(int number) {
        letter = new LockedLetter();
        model = new Model();
        run = new StringBuilder("run " + number + ": ");
        int sort = number % 7;
        int parts = 2 + below(sort == 2 || sort == 4 ? 4 : 7);
        due("sheet(" + parts + ")", letter.sheet(parts) ? 1 : 0, model.sheet(parts) ? 1 : 0);
        for (int i = 0; i < 50; i++) {
            switch (sort) {
                case 0 -> textCall();
                case 1 -> sheetCall(8);
                case 2 -> findCall();
                case 3 -> wayCall();
                case 4 -> shutAndFind(8);
                case 5 -> edgeCall();
                default -> anyCall();
            }
        }
        for (int what = -1; what <= 9; what++) {
            due("count(" + what + ")", letter.count(what), model.count(what));
        }
    }

    private void due(String call, long got, long want) {
        run.append(call).append("; ");
        check.due(got == want ? call : run.toString(), got, want);
    }

    private int below(int n) {
        return random.nextInt(n);
    }

    private boolean coin() {
        return random.nextBoolean();
    }

    private void anyCall() {
        switch (below(4)) {
            case 0 -> textCall();
            case 1 -> sheetCall(8);
            case 2 -> wayCall();
            default -> findMark();
        }
    }

    // ---- calls with numbers from and beyond the edges

    private int edge() {
        return EDGES[below(EDGES.length)];
    }

    private void edgeCall() {
        int a = edge();
        int b = edge();
        boolean c = coin();
        boolean d = coin();
        switch (below(11)) {
            case 0 -> due("fold(" + a + ", " + c + ", " + d + ")", letter.fold(a, c, d), model.fold(a, c, d));
            case 1 -> due("tuck(" + a + ", " + c + ", " + b + ")", letter.tuck(a, c, b), model.tuck(a, c, b));
            case 2 -> due("slit(" + a + ", " + b + ")", letter.slit(a, b), model.slit(a, b));
            case 3 -> due("lock(" + a + ", " + b + ")", letter.lock(a, b), model.lock(a, b));
            case 4 -> due("seal(" + a + ")", letter.seal(a), model.seal(a));
            case 5 -> due("back(" + a + ")", letter.back(a), model.back(a));
            case 6 -> {
                // The model tells all TALES one by one, which takes too long of many DAYS.
                if (a > 36 || a + model.count(7) <= 8) {
                    due("hand(" + a + ")", letter.hand(a), model.hand(a));
                }
                due("look(" + b + ", " + a + ")", letter.look(b, a), model.look(b, a));
            }
            case 7 -> due("find(" + a + ", 0, " + b + ")", letter.find(a, 0, b) ? 1 : 0, model.find(a, 0, b) ? 1 : 0);
            case 8 -> due("find(2, " + a + ", " + b + ")", letter.find(2, a, b) ? 1 : 0, model.find(2, a, b) ? 1 : 0);
            case 9 -> anyCall();
            default -> askAtEdges(a, b);
        }
    }

    private void askAtEdges(int a, int b) {
        due("part(" + a + ", " + b + ")", letter.part(a, b), model.part(a, b));
        due("part(0, " + b + ")", letter.part(0, b), model.part(0, b));
        due("mark(" + a + ")", letter.mark(a), model.mark(a));
        due("layers(" + a + ")", letter.layers(a), model.layers(a));
        due("at(" + a + ", " + b + ")", letter.at(a, b), model.at(a, b));
        due("at(0, " + b + ")", letter.at(0, b), model.at(0, b));
        due("harm(" + a + ")", letter.harm(a), model.harm(a));
        due("by(" + a + ")", letter.by(a), model.by(a));
        due("ease(" + a + ")", letter.ease(a), model.ease(a));
        due("undone(" + a + ")", letter.undone(a), model.undone(a));
        due("tale(" + a + ")", letter.tale(a), model.tale(a));
        due("tales(" + a + ")", letter.tales(a), model.tales(a));
        due("told(" + a + ", " + b + ")", letter.told(a, b), model.told(a, b));
        due("told(0, " + b + ")", letter.told(0, b), model.told(0, b));
        due("opened(" + a + ", " + b + ")", letter.opened(a, b), model.opened(a, b));
        due("opened(0, " + b + ")", letter.opened(0, b), model.opened(0, b));
        due("turned(" + a + ")", letter.turned(a), model.turned(a));
        due("count(" + a + ")", letter.count(a), model.count(a));
    }

    // ---- texts

    private void textCall() {
        String text = text();
        feedBoth(text);
        due("read of " + text, letter.read(), model.read());
        due("place()", letter.place(), model.place());
        due("count(3)", letter.count(3), model.count(3));
        for (int i = below(4); i > 0; i--) {
            sheetCall(8);
        }
    }

    private void feedBoth(String text) {
        byte[] bytes = text.getBytes(java.nio.charset.StandardCharsets.ISO_8859_1);
        int fed = 0;
        while (fed < bytes.length) {
            int[] w = new int[5];
            for (int i = 0; i < 5; i++) {
                w[i] = Check.word(bytes, fed + 4 * i);
            }
            due("feed", letter.feed(w[0], w[1], w[2], w[3], w[4]), model.feed(w[0], w[1], w[2], w[3], w[4]));
            fed += 20;
        }
        int more = fed - bytes.length;
        due("back(" + more + ")", letter.back(more), model.back(more));
    }

    private String text() {
        StringBuilder text = new StringBuilder();
        int rules = below(12) == 0 ? 15 + below(4) : below(6);
        for (int i = 0; i < rules; i++) {
            text.append(SORTS[below(6)]).append(' ').append(sum(0));
            if (below(3) > 0) {
                text.append(" if ").append(relation());
                for (int j = below(3); j > 0; j--) {
                    text.append(coin() ? " and " : " or ").append(relation());
                }
            }
            text.append(below(40) == 0 ? "" : ";").append(" \n\t\r".substring(0, below(5)));
        }
        if (below(3) == 0) {
            int at = below(text.length() + 1);
            text.insert(at, ODD[below(ODD.length)]);
        }
        if (below(8) == 0) {
            text.setLength(below(text.length() + 1));
        }
        if (text.length() > 1950) {
            text.setLength(1950);
        }
        return text.toString();
    }

    private String relation() {
        String[] signs = {"==", "!=", "<", "<="};
        return sum(0) + signs[below(4)] + sum(0);
    }

    private String sum(int depth) {
        StringBuilder sum = new StringBuilder(unit(depth));
        for (int i = below(4) == 0 ? below(5) : 0; i > 0; i--) {
            sum.append("+-*".charAt(below(3))).append(unit(depth));
        }
        return sum.toString();
    }

    private String unit(int depth) {
        if (below(5) == 0) {
            int deep = below(12) == 0 ? 1 + below(7) : 1;
            return depth > 2 ? "(1)" : "(".repeat(deep) + sum(depth + 1) + ")".repeat(deep);
        }
        return coin() ? VARS[below(5)] : String.valueOf(below(10) == 0 ? below(10000) : below(12));
    }

    // ---- the sheet

    private void sheetCall(int most) {
        int columns = model.count(1);
        int a = below(4) == 0 ? below(10) - 1 : below(columns + 1);
        int b = below(4) == 0 ? below(11) - 1 : 1 + below(4);
        boolean c = coin();
        boolean d = coin();
        switch (below(16)) {
            case 0 -> {
                int parts = below(6) == 0 ? a : 2 + below(most - 1);
                boolean any = below(3) == 0;
                due("sheet(" + parts + ")", any && parts <= most && letter.sheet(parts) ? 1 : 0,
                    any && parts <= most && model.sheet(parts) ? 1 : 0);
            }
            case 1, 2, 3 -> due("fold(" + a + ", " + c + ", " + d + ")", letter.fold(a, c, d), model.fold(a, c, d));
            case 4, 5, 6, 7 -> due("tuck(" + a + ", " + c + ", " + b + ")", letter.tuck(a, c, b), model.tuck(a, c, b));
            case 8 -> due("slit(" + a + ", " + b + ")", letter.slit(a, b), model.slit(a, b));
            case 9 -> lockCall(below(4) - 1, b);
            case 10 -> due("seal(" + a + ")", letter.seal(a), model.seal(a));
            case 11 -> due("soil()", letter.soil(), model.soil());
            case 12, 13 -> due("undo()", letter.undo(), model.undo());
            default -> askSheet();
        }
    }

    private void lockCall(int column, int k) {
        due("slit(" + column + ", " + k + ")", letter.slit(column, k), model.slit(column, k));
        due("lock(" + column + ", " + k + ")", letter.lock(column, k), model.lock(column, k));
    }

    private void askSheet() {
        for (int p = -1; p <= 8; p++) {
            for (int what = -1; what <= 8; what++) {
                due("part(" + p + ", " + what + ")", letter.part(p, what), model.part(p, what));
            }
            due("mark(" + p + ")", letter.mark(p), model.mark(p));
            due("layers(" + p + ")", letter.layers(p), model.layers(p));
            due("ease(" + p + ")", letter.ease(p), model.ease(p));
            due("undone(" + p + ")", letter.undone(p), model.undone(p));
            for (int l = -1; l <= 8; l++) {
                due("at(" + p + ", " + l + ")", letter.at(p, l), model.at(p, l));
            }
        }
        for (int act = -1; act <= 16; act++) {
            due("harm(" + act + ")", letter.harm(act), model.harm(act));
            due("by(" + act + ")", letter.by(act), model.by(act));
        }
        due("count(5)", letter.count(5), model.count(5));
    }

    // ---- finds

    private void findCall() {
        switch (below(8)) {
            case 0, 1, 2 -> findMark();
            case 3 -> {
                letter.finds();
                model.finds();
                run.append("finds(); ");
                askRows();
            }
            case 4 -> askRows();
            default -> sheetCall(4);
        }
    }

    /** A SHEET that is shut, once or twice, its MARKS found, and some of them lost or spoilt again. */
    private void shutAndFind(int most) {
        int parts = 2 + below(most - 1);
        due("sheet(" + parts + ")", letter.sheet(parts) ? 1 : 0, model.sheet(parts) ? 1 : 0);
        for (int i = below(6) == 0 ? 5 : below(4); i > 0; i--) {
            turnCall();
        }
        if (below(4) == 0) {
            for (int i = model.count(2); i > 0; i--) {
                due("undo()", letter.undo(), model.undo());
            }
            turnCall();
            turnCall();
        }
        if (coin()) {
            int column = below(model.count(1));
            int k = 1 + below(model.layers(column));
            due("slit(" + column + ", " + k + ")", letter.slit(column, k), model.slit(column, k));
        }
        if (coin()) {
            due("soil()", letter.soil(), model.soil());
        }
        letter.finds();
        model.finds();
        run.append("finds(); ");
        askRows();
        for (int i = below(4) * below(8); i > 0; i--) {
            int what = below(3);
            int at = below(what == 2 ? 2 * parts : parts);
            int v = below(8) == 0 ? below(what == 0 ? 4 : 2) : -1;
            due("find(" + what + ", " + at + ", " + v + ")", letter.find(what, at, v) ? 1 : 0, model.find(what, at, v) ? 1 : 0);
        }
        askRows();
        for (int i = 0; i < parts - 1; i++) {
            int v = below(3) == 0 ? 3 : below(5) - 1;
            due("find(0, " + i + ", " + v + ")", letter.find(0, i, v) ? 1 : 0, model.find(0, i, v) ? 1 : 0);
        }
        askRows();
    }

    private void turnCall() {
        int x = 1 + below(Math.max(1, model.count(1) - 1));
        boolean left = coin();
        if (coin()) {
            boolean over = coin();
            due("fold(" + x + ", " + left + ", " + over + ")", letter.fold(x, left, over), model.fold(x, left, over));
        } else {
            int level = 1 + below(3);
            due("tuck(" + x + ", " + left + ", " + level + ")", letter.tuck(x, left, level), model.tuck(x, left, level));
        }
    }

    private void findMark() {
        int what = below(12) == 0 ? below(5) - 1 : below(3);
        int i = below(what == 2 ? 18 : 9) - 1;
        int v = below(what == 0 ? 6 : 4) - 1;
        due("find(" + what + ", " + i + ", " + v + ")", letter.find(what, i, v) ? 1 : 0, model.find(what, i, v) ? 1 : 0);
    }

    private void askRows() {
        due("rows()", letter.rows(), model.rows());
        for (int i = -1; i <= 5; i++) {
            due("row(" + i + ")", letter.row(i), model.row(i));
        }
        due("shut()", letter.shut(), model.shut());
    }

    // ---- the way

    private void wayCall() {
        int days = model.count(7);
        int looks = model.count(8);
        switch (below(10)) {
            case 0 -> {
                int more = below(6) - 1;
                if (days + more <= 8) {
                    due("hand(" + more + ")", letter.hand(more), model.hand(more));
                }
            }
            case 1, 2, 3 -> {
                int day = below(days + 2) - 1;
                int what = below(10) == 0 ? below(5) - 1 : below(3);
                due("look(" + day + ", " + what + ")", letter.look(day, what), model.look(day, what));
            }
            case 4 -> {
                String text = text();
                feedBoth(text);
                due("read of " + text, letter.read(), model.read());
            }
            case 5 -> {
                for (int from = -1; from <= looks; from++) {
                    due("turned(" + from + ")", letter.turned(from), model.turned(from));
                }
            }
            default -> askTales(below(looks + 3) - 1, days);
        }
    }

    private void askTales(int n, int days) {
        due("tale(" + n + ")", letter.tale(n), model.tale(n));
        due("tales(" + n + ")", letter.tales(n), model.tales(n));
        for (int day = -1; day <= days; day++) {
            due("told(" + day + ", " + n + ")", letter.told(day, n), model.told(day, n));
        }
        for (int hand = -1; hand <= 6; hand++) {
            due("opened(" + hand + ", " + n + ")", letter.opened(hand, n), model.opened(hand, n));
        }
    }
}
