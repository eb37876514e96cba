import java.util.ArrayList;
import java.util.Arrays;
import java.util.HashMap;
import java.util.LinkedHashSet;
import java.util.List;
import java.util.Map;
import java.util.Set;

/**
 * The document told once more, as plainly as can be and without care for speed or room: lists of
 * lists for THE PACKET, trees of calls for texts, all ROWS and all TALES one by one.
 */
final class Model {
    static final int NONE = -1;

    private record Lying(int part, boolean up) { }

    private record Act(int kind, int layers, int column, int below, List<Integer> bound, List<List<Lying>> ahead) { }

    private record Token(String text, int place) { }

    private record Rule(String sort, List<Token> value, List<Token> cond) { }

    private static final class Fault extends RuntimeException {
        private static final long serialVersionUID = 1L;
        final int number;
        final int place;

        Fault(int number, int place) {
            this.number = number;
            this.place = place;
        }
    }

    // ---- the tape and the texts

    private final List<Integer> tape = new ArrayList<>();
    private List<Rule> rules = new ArrayList<>();
    private int faultPlace = NONE;

    int feed(int a, int b, int c, int d, int e) {
        if (tape.size() > 1980) {
            return NONE;
        }
        for (int word : new int[] {a, b, c, d, e}) {
            for (int i = 3; i >= 0; i--) {
                tape.add(word >>> (8 * i) & 255);
            }
        }
        return tape.size();
    }

    int back(int n) {
        if (n < 0 || n > tape.size()) {
            return NONE;
        }
        for (int i = 0; i < n; i++) {
            tape.remove(tape.size() - 1);
        }
        return tape.size();
    }

    int read() {
        StringBuilder text = new StringBuilder();
        for (int b : tape) {
            text.append((char) b);
        }
        tape.clear();
        try {
            rules = new Parser(text.toString()).rules();
            faultPlace = NONE;
            return 0;
        } catch (Fault fault) {
            faultPlace = fault.place;
            return fault.number;
        }
    }

    int place() {
        return faultPlace;
    }

    private static final class Parser {
        final String text;
        int at;
        int tokens;
        int depth;
        Token now;
        final List<Token> taken = new ArrayList<>();
        final List<Rule> found = new ArrayList<>();

        Parser(String text) {
            this.text = text;
            advance();
        }

        /** now becomes the next TOKEN; null at the end; text null for what is none. */
        void advance() {
            while (at < text.length() && " \t\n\r".indexOf(text.charAt(at)) >= 0) {
                at++;
            }
            if (at == text.length()) {
                now = null;
                return;
            }
            String rest = text.substring(at);
            String all = match(rest, "[a-z]+");
            boolean good = all.length() <= 8;
            if (all.isEmpty()) {
                all = match(rest, "[0-9]+");
                good = all.length() <= 4;
            }
            if (all.isEmpty()) {
                all = match(rest, "(==|!=|<=|[;+*()<-])");
            }
            good = good && !all.isEmpty();
            now = new Token(good ? all : null, at);
            at += all.length();
        }

        static String match(String rest, String pattern) {
            java.util.regex.Matcher m = java.util.regex.Pattern.compile(pattern).matcher(rest);
            return m.lookingAt() ? m.group() : "";
        }

        boolean is(String... those) {
            return now != null && now.text != null && Arrays.asList(those).contains(now.text);
        }

        void take(boolean fits) {
            if (!fits) {
                throw new Fault(1, now == null ? text.length() : now.place);
            }
            tokens++;
            if (tokens > 400) {
                throw new Fault(2, now.place);
            }
            taken.add(now);
            advance();
        }

        List<Token> takenSince(int from) {
            return new ArrayList<>(taken.subList(from, taken.size()));
        }

        List<Rule> rules() {
            while (now != null) {
                boolean fits = is("harm", "cut", "trick", "peep", "opens", "doubt");
                if (fits && found.size() == 16) {
                    throw new Fault(2, now.place);
                }
                take(fits);
                String sort = taken.get(taken.size() - 1).text;
                int from = taken.size();
                sum();
                List<Token> value = takenSince(from);
                List<Token> cond = null;
                if (is("if")) {
                    take(true);
                    from = taken.size();
                    condition();
                    cond = takenSince(from);
                }
                take(is(";"));
                found.add(new Rule(sort, value, cond));
            }
            return found;
        }

        void condition() {
            relation();
            while (is("and", "or")) {
                take(true);
                relation();
            }
        }

        void relation() {
            sum();
            take(is("==", "!=", "<", "<="));
            sum();
        }

        void sum() {
            unit();
            while (is("+", "-", "*")) {
                take(true);
                unit();
            }
        }

        void unit() {
            if (is("(")) {
                if (depth == 6) {
                    throw new Fault(2, now.place);
                }
                depth++;
                take(true);
                sum();
                take(is(")"));
                depth--;
                return;
            }
            boolean number = now != null && now.text != null && Character.isDigit(now.text.charAt(0));
            take(number || is("kind", "layers", "column", "number", "below"));
        }
    }

    /** Works out an E or a COND by splitting it at its loosest sign, the last one of these. */
    private static int value(List<Token> all, int[] vars) {
        String[][] loosest = {{"or"}, {"and"}, {"==", "!=", "<", "<="}, {"+", "-"}, {"*"}};
        for (String[] signs : loosest) {
            int depth = 0;
            for (int i = all.size() - 1; i >= 0; i--) {
                String sign = all.get(i).text;
                depth += sign.equals(")") ? 1 : sign.equals("(") ? -1 : 0;
                if (depth == 0 && Arrays.asList(signs).contains(sign)) {
                    int a = value(all.subList(0, i), vars);
                    int b = value(all.subList(i + 1, all.size()), vars);
                    return joined(sign, a, b);
                }
            }
        }
        String only = all.get(0).text;
        if (only.equals("(")) {
            return value(all.subList(1, all.size() - 1), vars);
        }
        int var = Arrays.asList("kind", "layers", "column", "number", "below").indexOf(only);
        return var >= 0 ? vars[var] : Integer.parseInt(only);
    }

    private static int joined(String sign, int a, int b) {
        return switch (sign) {
            case "or" -> a == 1 || b == 1 ? 1 : 0;
            case "and" -> a == 1 && b == 1 ? 1 : 0;
            case "==" -> a == b ? 1 : 0;
            case "!=" -> a != b ? 1 : 0;
            case "<" -> a < b ? 1 : 0;
            case "<=" -> a <= b ? 1 : 0;
            case "+" -> a + b;
            case "-" -> a - b;
            default -> a * b;
        };
    }

    private int firstRule(String sort, int... vars) {
        for (int i = 0; i < rules.size(); i++) {
            Rule rule = rules.get(i);
            if (rule.sort.equals(sort) && (rule.cond == null || value(rule.cond, vars) == 1)) {
                return i;
            }
        }
        return NONE;
    }

    private int price(int rule, int... vars) {
        return Math.max(0, Math.min(1000, value(rules.get(rule).value, vars)));
    }

    private int firstPrice(String sort, int without, int... vars) {
        int rule = firstRule(sort, vars);
        return rule == NONE ? without : price(rule, vars);
    }

    // ---- the sheet and its acts

    private int parts;
    private List<List<Lying>> packet;
    private final List<Act> acts = new ArrayList<>();
    private int[] creases;
    private int[] slits;
    private int[] wax;
    private int[] dirt;

    Model() {
        sheet(4);
    }

    boolean sheet(int count) {
        if (count < 2 || count > 8) {
            return false;
        }
        parts = count;
        acts.clear();
        packet = flat(count);
        creases = new int[count - 1];
        slits = new int[count];
        wax = new int[count];
        dirt = new int[2 * count];
        foundCreases = filled(count - 1);
        foundSlits = filled(count);
        foundDirt = filled(2 * count);
        searched = false;
        return true;
    }

    private static int[] filled(int length) {
        int[] row = new int[length];
        Arrays.fill(row, NONE);
        return row;
    }

    private static List<List<Lying>> flat(int count) {
        List<List<Lying>> flat = new ArrayList<>();
        for (int p = 0; p < count; p++) {
            flat.add(List.of(new Lying(p, true)));
        }
        return flat;
    }

    private static List<List<Lying>> turned(List<List<Lying>> packet, int x, boolean left, int level) {
        // The widest a packet gets to the left is eight columns below 0.
        List<List<Lying>> wide = new ArrayList<>();
        for (int i = 0; i < 32; i++) {
            wide.add(new ArrayList<>());
        }
        for (int pass = 0; pass < 2; pass++) {
            for (int c = 0; c < packet.size(); c++) {
                boolean moves = left ? c < x : c >= x;
                if (!moves && pass == 0) {
                    wide.get(c + 12).addAll(packet.get(c));
                }
                if (moves && pass == 1) {
                    List<Lying> there = wide.get(2 * x - 1 - c + 12);
                    int height = Math.min(level, there.size());
                    for (Lying one : packet.get(c)) {
                        there.add(height, new Lying(one.part, !one.up));
                    }
                }
            }
        }
        wide.removeIf(List::isEmpty);
        return wide;
    }

    private static int[] whereIs(List<List<Lying>> packet, int part) {
        for (int c = 0; c < packet.size(); c++) {
            for (int l = 0; l < packet.get(c).size(); l++) {
                if (packet.get(c).get(l).part == part) {
                    return new int[] {c, l, packet.get(c).get(l).up ? 1 : 0};
                }
            }
        }
        throw new IllegalStateException("no part " + part);
    }

    private static int countOf(List<List<Lying>> packet) {
        int count = 0;
        for (List<Lying> pile : packet) {
            count += pile.size();
        }
        return count;
    }

    /** CREASES on a side (0 left, 1 right) of a COLUMN, each as its lower and its higher LAYER. */
    private static List<int[]> creasesOn(List<List<Lying>> packet, int column, int side) {
        List<int[]> those = new ArrayList<>();
        for (int i = 0; i + 1 < countOf(packet); i++) {
            int[] a = whereIs(packet, i);
            int[] b = whereIs(packet, i + 1);
            if (a[0] == column && b[0] == column && a[2] == side) {
                those.add(new int[] {Math.min(a[1], b[1]), Math.max(a[1], b[1])});
            }
        }
        return those;
    }

    /** PARTS that go on FLAT over a LINE, each as its LAYER on the left and on the right. */
    private static List<int[]> flatOver(List<List<Lying>> packet, int line) {
        List<int[]> those = new ArrayList<>();
        for (int i = 0; i + 1 < countOf(packet); i++) {
            int[] a = whereIs(packet, i);
            int[] b = whereIs(packet, i + 1);
            if (a[0] == line - 1 && b[0] == line) {
                those.add(new int[] {a[1], b[1]});
            }
            if (b[0] == line - 1 && a[0] == line) {
                those.add(new int[] {b[1], a[1]});
            }
        }
        return those;
    }

    private static boolean inside(int layer, int[] pair) {
        return pair[0] < layer && layer < pair[1];
    }

    static boolean passes(List<List<Lying>> packet) {
        for (int c = 0; c < packet.size(); c++) {
            for (int side = 0; side < 2; side++) {
                for (int[] one : creasesOn(packet, c, side)) {
                    for (int[] other : creasesOn(packet, c, side)) {
                        if (inside(other[0], one) != inside(other[1], one)) {
                            return true;
                        }
                    }
                    for (int[] flat : flatOver(packet, c + side)) {
                        if (inside(flat[1 - side], one)) {
                            return true;
                        }
                    }
                }
            }
        }
        for (int line = 1; line < packet.size(); line++) {
            for (int[] one : flatOver(packet, line)) {
                for (int[] other : flatOver(packet, line)) {
                    if (one[0] < other[0] && one[1] > other[1]) {
                        return true;
                    }
                }
            }
        }
        return false;
    }

    private static void mark(List<List<Lying>> packet, int x, boolean over, int[] marks) {
        for (int i = 0; i + 1 < countOf(packet); i++) {
            int[] a = whereIs(packet, i);
            int[] b = whereIs(packet, i + 1);
            if (Math.min(a[0], b[0]) == x - 1 && Math.max(a[0], b[0]) == x) {
                boolean up = a[2] == 1 ? over : !over;
                marks[i] |= up ? 1 : 2;
            }
        }
    }

    private int turn(int kind, int x, boolean left, int level) {
        if (x < 1 || x >= packet.size() || acts.size() == 16) {
            return NONE;
        }
        List<List<Lying>> next = turned(packet, x, left, level);
        if (kind == 1 && passes(next)) {
            return -2;
        }
        int moved = 0;
        for (int c = left ? 0 : x; c < (left ? x : packet.size()); c++) {
            moved += packet.get(c).size();
        }
        mark(packet, x, level > 0, creases);
        acts.add(new Act(kind, moved, x, 0, List.of(), packet));
        packet = next;
        return acts.size() - 1;
    }

    int fold(int x, boolean left, boolean over) {
        return turn(0, x, left, over ? 100 : 0);
    }

    int tuck(int x, boolean left, int level) {
        return level < 0 || level > 8 ? NONE : turn(1, x, left, level);
    }

    private List<Integer> highest(int column, int k) {
        List<Integer> those = new ArrayList<>();
        List<Lying> pile = packet.get(column);
        for (Lying one : pile.subList(pile.size() - k, pile.size())) {
            those.add(one.part);
        }
        return those;
    }

    private boolean hasPile(int column, int k) {
        return acts.size() < 16 && column >= 0 && column < packet.size() && packet.get(column).size() >= k;
    }

    private int act(int kind, int column, int k, List<Integer> bound) {
        acts.add(new Act(kind, k, column, packet.get(column).size() - k, bound, packet));
        return acts.size() - 1;
    }

    int slit(int column, int k) {
        if (k < 1 || !hasPile(column, k)) {
            return NONE;
        }
        for (int part : highest(column, k)) {
            slits[part]++;
        }
        return act(2, column, k, List.of());
    }

    int lock(int column, int k) {
        if (k < 2 || !hasPile(column, k)) {
            return NONE;
        }
        for (int part : highest(column, k)) {
            if (slits[part] == 0) {
                return -2;
            }
        }
        return act(3, column, k, highest(column, k));
    }

    int seal(int column) {
        if (!hasPile(column, 2)) {
            return NONE;
        }
        for (int part : highest(column, 2)) {
            wax[part]++;
        }
        return act(4, column, 2, highest(column, 2));
    }

    private static void dirty(List<List<Lying>> packet, int[] dirt) {
        for (List<Lying> pile : packet) {
            Lying high = pile.get(pile.size() - 1);
            Lying low = pile.get(0);
            dirt[2 * high.part + (high.up ? 0 : 1)] = 1;
            dirt[2 * low.part + (low.up ? 1 : 0)] = 1;
        }
    }

    int soil() {
        if (acts.size() == 16) {
            return NONE;
        }
        dirty(packet, dirt);
        acts.add(new Act(5, 0, 0, 0, List.of(), packet));
        return acts.size() - 1;
    }

    int undo() {
        if (acts.isEmpty()) {
            return NONE;
        }
        int harm = harm(acts.size() - 1);
        packet = acts.remove(acts.size() - 1).ahead;
        return harm;
    }

    int part(int part, int what) {
        if (part < 0 || part >= parts || what < 0 || what > 7) {
            return NONE;
        }
        if (what < 3) {
            return whereIs(packet, part)[what];
        }
        if (what == 5) {
            return canRead(packet, part) ? 1 : peep(acts.size(), part) != NONE ? 2 : 0;
        }
        return what == 3 ? slits[part] : what == 4 ? wax[part] : dirt[2 * part + what - 6];
    }

    int mark(int i) {
        return i < 0 || i >= parts - 1 ? NONE : creases[i];
    }

    int layers(int column) {
        return column < 0 || column >= packet.size() ? NONE : packet.get(column).size();
    }

    int at(int column, int layer) {
        return layer < 0 || layer >= layers(column) ? NONE : packet.get(column).get(layer).part;
    }

    // ---- harm and sight

    private int[] vars(int number) {
        Act act = acts.get(number);
        return new int[] {act.kind, act.layers, act.column, number, act.below};
    }

    int harm(int number) {
        if (number < 0 || number >= acts.size()) {
            return NONE;
        }
        int least = Integer.MAX_VALUE;
        for (String sort : List.of("harm", "cut", "trick")) {
            least = Math.min(least, firstPrice(sort, Integer.MAX_VALUE, vars(number)));
        }
        int kind = acts.get(number).kind;
        return least != Integer.MAX_VALUE ? least : kind == 3 || kind == 4 ? 10 : 0;
    }

    int by(int number) {
        if (number < 0 || number >= acts.size()) {
            return NONE;
        }
        for (int rule = 0; rule < rules.size(); rule++) {
            String sort = rules.get(rule).sort;
            boolean first = List.of("harm", "cut", "trick").contains(sort) && firstRule(sort, vars(number)) == rule;
            if (first && price(rule, vars(number)) == harm(number)) {
                return rule;
            }
        }
        return NONE;
    }

    private static boolean canRead(List<List<Lying>> packet, int part) {
        int[] where = whereIs(packet, part);
        return where[2] == 1 ? where[1] == packet.get(where[0]).size() - 1 : where[1] == 0;
    }

    private int peep(int left, int part) {
        List<List<Lying>> then = left == acts.size() ? packet : acts.get(left).ahead;
        int[] where = whereIs(then, part);
        int next = where[2] == 1 ? where[1] + 1 : where[1] - 1;
        int other = then.get(where[0]).get(next).part;
        for (Act act : acts.subList(0, left)) {
            if (act.bound.contains(part) && act.bound.contains(other)) {
                return NONE;
            }
        }
        boolean open = false;
        for (int side = 0; side < 2; side++) {
            boolean outside = where[0] == (side == 0 ? 0 : then.size() - 1);
            for (int[] pair : creasesOn(then, where[0], side)) {
                outside &= Math.min(where[1], next) < pair[0] || Math.max(where[1], next) > pair[1];
            }
            open |= outside;
        }
        return open ? firstPrice("peep", NONE, 6, then.get(where[0]).size(), where[0], part, where[1]) : NONE;
    }

    private int effort(int part, int undone) {
        int left = acts.size() - undone;
        int harm = 0;
        for (int act = left; act < acts.size(); act++) {
            harm += harm(act);
        }
        if (canRead(left == acts.size() ? packet : acts.get(left).ahead, part)) {
            return harm;
        }
        int peep = peep(left, part);
        return peep == NONE ? Integer.MAX_VALUE : harm + peep;
    }

    int ease(int part) {
        return part < 0 || part >= parts ? NONE : effort(part, undone(part));
    }

    int undone(int part) {
        if (part < 0 || part >= parts) {
            return NONE;
        }
        int best = 0;
        for (int undone = 1; undone <= acts.size(); undone++) {
            if (effort(part, undone) < effort(part, best)) {
                best = undone;
            }
        }
        return best;
    }

    // ---- finds and rows

    private int[] foundCreases;
    private int[] foundSlits;
    private int[] foundDirt;

    boolean find(int what, int i, int v) {
        int[] row = what == 0 ? foundCreases : what == 1 ? foundSlits : foundDirt;
        if (what < 0 || what > 2 || i < 0 || i >= row.length || v < NONE || v > (what == 0 ? 3 : 1)) {
            return false;
        }
        row[i] = v;
        searched = false;
        return true;
    }

    void finds() {
        foundCreases = creases.clone();
        for (int p = 0; p < parts; p++) {
            foundSlits[p] = slits[p] > 0 ? 1 : 0;
        }
        foundDirt = dirt.clone();
        searched = false;
    }

    private static boolean fits(int[] marks, int[] found) {
        for (int i = 0; i < found.length; i++) {
            if (found[i] != NONE && found[i] != marks[i]) {
                return false;
            }
        }
        return true;
    }

    /** What some FOLDS and TUCKS make of a flat SHEET. */
    private record Shape(List<List<Lying>> packet, int[] marks, List<Integer> row) { }

    private static final Map<Integer, List<Shape>> SHAPES = new HashMap<>();
    private boolean searched;
    private int fitting;
    private List<Integer> firstRow;

    private void search() {
        if (searched) {
            return;
        }
        searched = true;
        fitting = 0;
        firstRow = null;
        for (Shape shape : shapes(parts)) {
            searchSlits(shape.packet, shape.marks, shape.row);
        }
    }

    /** All of them one by one, in the order of ROWS. */
    private static List<Shape> shapes(int parts) {
        List<Shape> all = SHAPES.get(parts);
        if (all == null) {
            all = new ArrayList<>();
            for (int turns = 0; turns <= 3; turns++) {
                turnOn(new Shape(flat(parts), new int[parts - 1], List.of()), turns, all);
            }
            SHAPES.put(parts, all);
        }
        return all;
    }

    private static void turnOn(Shape shape, int turns, List<Shape> all) {
        if (turns == 0) {
            all.add(shape);
            return;
        }
        List<List<Lying>> now = shape.packet;
        int most = 0;
        for (List<Lying> pile : now) {
            most = Math.max(most, pile.size());
        }
        for (int x = 1; x < now.size(); x++) {
            for (int side = 0; side < 2; side++) {
                for (int last = 0; last <= most; last++) {
                    int level = last == 0 ? 100 : last == 1 ? 0 : last - 1;
                    List<List<Lying>> next = turned(now, x, side == 0, level);
                    if (last >= 2 && passes(next)) {
                        continue;
                    }
                    int[] more = shape.marks.clone();
                    mark(now, x, level > 0, more);
                    turnOn(new Shape(next, more, with(shape.row, 100 * x + 10 * side + last)), turns - 1, all);
                }
            }
        }
    }

    private static List<Integer> with(List<Integer> row, int act) {
        List<Integer> more = new ArrayList<>(row);
        more.add(act);
        return more;
    }

    private void searchSlits(List<List<Lying>> now, int[] marks, List<Integer> row) {
        searchSoil(now, marks, new int[parts], row);
        for (int c = 0; c < now.size(); c++) {
            int[] cut = new int[parts];
            int height = now.get(c).size();
            for (int k = 1; k <= height; k++) {
                cut[now.get(c).get(height - k).part] = 1;
                searchSoil(now, marks, cut, with(row, 1000 + 10 * c + k));
            }
        }
    }

    private void searchSoil(List<List<Lying>> now, int[] marks, int[] cut, List<Integer> row) {
        if (!fits(marks, foundCreases) || !fits(cut, foundSlits)) {
            return;
        }
        int[] soiled = new int[2 * parts];
        if (fits(soiled, foundDirt)) {
            note(row);
        }
        dirty(now, soiled);
        if (fits(soiled, foundDirt)) {
            note(with(row, 2000));
        }
    }

    private void note(List<Integer> row) {
        fitting++;
        if (firstRow == null) {
            firstRow = row;
        }
    }

    int rows() {
        search();
        return fitting;
    }

    int row(int i) {
        search();
        return firstRow == null || i < 0 || i >= firstRow.size() ? NONE : firstRow.get(i);
    }

    int shut() {
        search();
        if (fitting > 0) {
            return 1;
        }
        Set<List<Integer>> creaseRows = new LinkedHashSet<>();
        for (Shape shape : shapes(parts)) {
            creaseRows.add(Arrays.stream(shape.marks).boxed().toList());
        }
        for (List<Integer> one : creaseRows) {
            for (List<Integer> other : creaseRows) {
                int[] both = new int[one.size()];
                for (int i = 0; i < both.length; i++) {
                    both[i] = one.get(i) | other.get(i);
                }
                if (fits(both, foundCreases)) {
                    return 2;
                }
            }
        }
        return 0;
    }

    // ---- the way

    private final List<Integer> handDays = new ArrayList<>();
    private final List<int[]> looks = new ArrayList<>();

    private int days() {
        int days = 0;
        for (int more : handDays) {
            days += more;
        }
        return days;
    }

    private int handOn(int day) {
        int hand = 0;
        int end = handDays.get(0);
        while (day >= end) {
            hand++;
            end += handDays.get(hand);
        }
        return hand;
    }

    int hand(int more) {
        if (handDays.size() == 6 || more < 1 || more > 36 || days() + more > 36) {
            return NONE;
        }
        handDays.add(more);
        return handDays.size() - 1;
    }

    int look(int day, int what) {
        if (looks.size() == 40 || day < 0 || day >= days() || what < 0 || what > 2) {
            return NONE;
        }
        looks.add(new int[] {day, what});
        return looks.size() - 1;
    }

    private int bestCost;
    private List<int[]> best;

    /** All TALES one by one, in their order. */
    private boolean tellAll(int n) {
        if (n < 0 || n > looks.size()) {
            return false;
        }
        bestCost = Integer.MAX_VALUE;
        best = new ArrayList<>();
        int[][] changeCost = new int[2][days()];
        for (int day = 0; day < days(); day++) {
            for (int kind = 7; kind <= 8; kind++) {
                changeCost[kind - 7][day] = firstPrice("opens", 10, kind, 0, day, handOn(day), 0);
            }
        }
        int[] doubtCost = new int[n];
        for (int i = 0; i < n; i++) {
            int day = looks.get(i)[0];
            doubtCost[i] = firstPrice("doubt", 10, 9, 0, day, handOn(day), looks.get(i)[1]);
        }
        tellFrom(0, 0, 0, new int[days()], changeCost, doubtCost);
        return true;
    }

    private void tellFrom(int day, int before, int cost, int[] tale, int[][] changeCost, int[] doubtCost) {
        if (day == tale.length) {
            int all = cost;
            for (int i = 0; i < doubtCost.length; i++) {
                all += tale[looks.get(i)[0]] == looks.get(i)[1] ? 0 : doubtCost[i];
            }
            if (all < bestCost) {
                bestCost = all;
                best.clear();
            }
            if (all == bestCost) {
                best.add(tale.clone());
            }
            return;
        }
        for (int state = 0; state <= 2; state++) {
            boolean may = state == before || state == 1 || state == 2 && before == 1;
            if (may) {
                tale[day] = state;
                int change = state == before ? 0 : changeCost[state - 1][day];
                tellFrom(day + 1, state, cost + change, tale, changeCost, doubtCost);
            }
        }
    }

    int tale(int n) {
        return tellAll(n) ? bestCost : NONE;
    }

    long tales(int n) {
        return tellAll(n) ? best.size() : NONE;
    }

    int told(int day, int n) {
        return day >= 0 && day < days() && tellAll(n) ? best.get(0)[day] : NONE;
    }

    int opened(int hand, int n) {
        if (hand < 0 || hand >= handDays.size() || !tellAll(n)) {
            return NONE;
        }
        int guilty = 0;
        for (int[] tale : best) {
            boolean opens = false;
            for (int day = 0; day < tale.length; day++) {
                boolean wasOpen = day > 0 && tale[day - 1] == 1;
                opens |= tale[day] == 1 && !wasOpen && handOn(day) == hand;
            }
            guilty += opens ? 1 : 0;
        }
        return guilty == best.size() ? 1 : guilty == 0 ? 0 : 2;
    }

    int turned(int from) {
        if (from < 0) {
            return NONE;
        }
        for (int i = from; i < looks.size(); i++) {
            tellAll(i);
            int[] without = best.get(0);
            tellAll(i + 1);
            if (!Arrays.equals(without, best.get(0))) {
                return i;
            }
        }
        return NONE;
    }

    int count(int what) {
        int harm = 0;
        for (int act = 0; act < acts.size(); act++) {
            harm += harm(act);
        }
        int[] counts = {
            parts, packet.size(), acts.size(), rules.size(), tape.size(), harm, handDays.size(), days(), looks.size()};
        return what < 0 || what >= counts.length ? NONE : counts[what];
    }
}
