import java.util.Arrays;

/**
 * Shuts letters with themselves and examines them, as the document's promises 1 to 34 say.
 * All rows are made once with the object and used again: no call makes an object.
 */
public final class LockedLetter {
    public static final int NONE = -1;

    private static final int CANNOT = -2;
    private static final int MAX_PARTS = 8;
    private static final int MAX_ACTS = 16;
    private static final int MAX_PRICE = 1000;
    private static final int USUAL_PRICE = 10;
    // A LEVEL that no pile reaches: laid in there is laid over all.
    private static final int ABOVE_ALL = 8;

    private static final int FOLD = 0;
    private static final int TUCK = 1;
    private static final int SLIT = 2;
    private static final int LOCK = 3;
    private static final int SEAL = 4;
    private static final int SOIL = 5;
    private static final int PEEPING = 6;
    private static final int OPENING = 7;
    private static final int SHUTTING = 8;
    private static final int DOUBTING = 9;

    private static final int WHOLE = 0;
    private static final int OPEN = 1;
    private static final int SHUT_AGAIN = 2;

    private static final int SYNTAX = 1;
    private static final int ROOM = 2;

    private final Tape tape;
    private final Reader reader;
    private final Sheet letter;
    private final Finds evidence;
    private final Way way;
    private Prices prices;
    private Prices spare;
    private int faultPlace;

    public LockedLetter() {
        tape = new Tape();
        reader = new Reader();
        letter = new Sheet();
        evidence = new Finds();
        way = new Way();
        prices = new Prices();
        spare = new Prices();
        faultPlace = NONE;
        letter.layFlat(4);
        evidence.forget(4);
    }

    public int feed(int a, int b, int c, int d, int e) {
        if (tape.size + 20 > Tape.MAX_BYTES) {
            return NONE;
        }
        tape.append(a);
        tape.append(b);
        tape.append(c);
        tape.append(d);
        tape.append(e);
        return tape.size;
    }

    public int back(int n) {
        if (n < 0 || n > tape.size) {
            return NONE;
        }
        tape.size -= n;
        return tape.size;
    }

    public int read() {
        int fault = reader.readText(tape, spare);
        faultPlace = fault == 0 ? NONE : tape.start;
        tape.size = 0;
        if (fault == 0) {
            Prices old = prices;
            prices = spare;
            spare = old;
            way.priced = false;
        }
        return fault;
    }

    public int place() {
        return faultPlace;
    }

    public boolean sheet(int parts) {
        if (parts < 2 || parts > MAX_PARTS) {
            return false;
        }
        letter.layFlat(parts);
        evidence.forget(parts);
        return true;
    }

    public int fold(int x, boolean left, boolean over) {
        return letter.turnAt(FOLD, x, left, over ? ABOVE_ALL : 0);
    }

    public int tuck(int x, boolean left, int level) {
        if (level < 0 || level > 8) {
            return NONE;
        }
        return letter.turnAt(TUCK, x, left, level);
    }

    public int slit(int column, int k) {
        return letter.cut(column, k);
    }

    public int lock(int column, int k) {
        return letter.bindByStrip(column, k);
    }

    public int seal(int column) {
        return letter.bindByWax(column);
    }

    public int soil() {
        return letter.dirty();
    }

    public int undo() {
        if (letter.acts == 0) {
            return NONE;
        }
        int harm = letter.harmOf(letter.acts - 1, prices);
        letter.acts--;
        return harm;
    }

    public int part(int part, int what) {
        if (!letter.hasPart(part)) {
            return NONE;
        }
        Packet packet = letter.packet();
        switch (what) {
            case 0:
                return packet.column[part];
            case 1:
                return packet.layer[part];
            case 2:
                return packet.up[part] ? 1 : 0;
            case 3:
                return letter.slits[part];
            case 4:
                return letter.wax[part];
            case 5:
                return letter.sightOf(part, prices);
            case 6:
                return letter.dirt >> (2 * part) & 1;
            case 7:
                return letter.dirt >> (2 * part + 1) & 1;
            default:
                return NONE;
        }
    }

    public int mark(int i) {
        if (i < 0 || i >= letter.parts - 1) {
            return NONE;
        }
        return letter.creases >> (2 * i) & 3;
    }

    public int layers(int column) {
        return letter.packet().heightOf(column);
    }

    public int at(int column, int layer) {
        return letter.packet().partAt(column, layer);
    }

    public int harm(int act) {
        return letter.hasAct(act) ? letter.harmOf(act, prices) : NONE;
    }

    public int by(int act) {
        return letter.hasAct(act) ? letter.harmRule(act, prices) : NONE;
    }

    public int ease(int part) {
        if (!letter.hasPart(part)) {
            return NONE;
        }
        letter.weigh(part, prices);
        return letter.leastHarm;
    }

    public int undone(int part) {
        if (!letter.hasPart(part)) {
            return NONE;
        }
        letter.weigh(part, prices);
        return letter.leastUndone;
    }

    public boolean find(int what, int i, int v) {
        switch (what) {
            case 0:
                return evidence.noteCrease(i, v);
            case 1:
                return evidence.noteSlit(i, v);
            case 2:
                return evidence.noteDirt(i, v);
            default:
                return false;
        }
    }

    public void finds() {
        evidence.noteAll(letter);
    }

    public int rows() {
        evidence.search();
        return evidence.fitting;
    }

    public int row(int i) {
        evidence.search();
        return evidence.firstAct(i);
    }

    public int shut() {
        evidence.search();
        if (evidence.fitting > 0) {
            return 1;
        }
        return evidence.isShutTwice() ? 2 : 0;
    }

    public int hand(int days) {
        return way.addHand(days);
    }

    public int look(int day, int what) {
        return way.addLook(day, what);
    }

    public int tale(int n) {
        if (!way.knows(n)) {
            return NONE;
        }
        way.know(n, prices);
        way.weigh(NONE);
        return way.leastCost();
    }

    public long tales(int n) {
        if (!way.knows(n)) {
            return NONE;
        }
        way.know(n, prices);
        way.weigh(NONE);
        return way.howMany();
    }

    public int told(int day, int n) {
        if (!way.knows(n) || day < 0 || day >= way.days) {
            return NONE;
        }
        way.know(n, prices);
        way.weigh(NONE);
        way.tell();
        return way.first[day];
    }

    public int opened(int hand, int n) {
        if (!way.knows(n) || hand < 0 || hand >= way.hands) {
            return NONE;
        }
        way.know(n, prices);
        return way.guiltOf(hand);
    }

    public int turned(int from) {
        if (from < 0 || from >= way.looks) {
            return NONE;
        }
        way.know(from, prices);
        return way.firstTurn(from);
    }

    public int count(int what) {
        switch (what) {
            case 0:
                return letter.parts;
            case 1:
                return letter.packet().columns;
            case 2:
                return letter.acts;
            case 3:
                return prices.rules;
            case 4:
                return tape.size;
            case 5:
                return letter.harmOfAll(prices);
            case 6:
                return way.hands;
            case 7:
                return way.days;
            case 8:
                return way.looks;
            default:
                return NONE;
        }
    }

    private static int held(int price) {
        return Math.max(0, Math.min(MAX_PRICE, price));
    }

    /** The bytes that were fed, and the TOKEN in them that was scanned last. */
    private static final class Tape {
        static final int MAX_BYTES = 2000;
        static final int MAX_LETTERS = 8;
        static final int MAX_DIGITS = 4;

        // The sorts of TOKENS; those from OPENS on stand in the order of Reader.RANKS.
        static final int END = 0;
        static final int BAD = 1;
        static final int NUMBER = 2;
        static final int NAME = 3;
        static final int RULE = 4;
        static final int IF = 5;
        static final int SEMICOLON = 6;
        static final int CLOSES = 7;
        static final int OPENS = 8;
        static final int OR = 9;
        static final int AND = 10;
        static final int EQUAL = 11;
        static final int UNLIKE = 12;
        static final int LESS = 13;
        static final int AT_MOST = 14;
        static final int PLUS = 15;
        static final int MINUS = 16;
        static final int TIMES = 17;

        // Eight signs a word, as no WORD has more: six sorts of RULES, three links, five VARS.
        static final String WORDS =
            "harm    cut     trick   peep    opens   doubt   if      and     or      kind    layers  column  number  below   ";
        static final int FIRST_LINK = 6;
        static final int FIRST_NAME = 9;
        static final int ALL_WORDS = 14;

        final byte[] bytes = new byte[MAX_BYTES];
        int size;
        int next;
        int start;
        int sort;
        int value;

        void append(int word) {
            for (int shift = 24; shift >= 0; shift -= 8) {
                if (size < MAX_BYTES) {
                    bytes[size] = (byte) (word >> shift);
                    size++;
                }
            }
        }

        void scan() {
            while (next < size && isBlank(bytes[next])) {
                next++;
            }
            start = next;
            value = 0;
            if (next >= size) {
                sort = END;
            } else if (isLetter(bytes[next])) {
                scanWord();
            } else if (isDigit(bytes[next])) {
                scanNumber();
            } else {
                scanSign(bytes[next]);
            }
        }

        private void scanWord() {
            while (next < size && isLetter(bytes[next])) {
                next++;
            }
            int word = next - start > MAX_LETTERS ? NONE : wordNumber();
            if (word == NONE) {
                sort = BAD;
            } else if (word < FIRST_LINK) {
                sort = RULE;
                value = word;
            } else if (word < FIRST_NAME) {
                sort = word == FIRST_LINK ? IF : word == FIRST_LINK + 1 ? AND : OR;
            } else {
                sort = NAME;
                value = word - FIRST_NAME;
            }
        }

        private int wordNumber() {
            for (int word = 0; word < ALL_WORDS; word++) {
                if (isWord(word)) {
                    return word;
                }
            }
            return NONE;
        }

        private boolean isWord(int word) {
            for (int i = 0; i < MAX_LETTERS; i++) {
                char due = WORDS.charAt(MAX_LETTERS * word + i);
                char is = start + i < next ? (char) bytes[start + i] : ' ';
                if (due != is) {
                    return false;
                }
            }
            return true;
        }

        private void scanNumber() {
            while (next < size && isDigit(bytes[next])) {
                // Past four digits the value is not used, so that it may wrap.
                value = 10 * value + (bytes[next] - '0');
                next++;
            }
            sort = next - start > MAX_DIGITS ? BAD : NUMBER;
        }

        private void scanSign(byte sign) {
            next++;
            boolean equalNext = next < size && bytes[next] == '=';
            switch (sign) {
                case ';':
                    sort = SEMICOLON;
                    break;
                case '+':
                    sort = PLUS;
                    break;
                case '-':
                    sort = MINUS;
                    break;
                case '*':
                    sort = TIMES;
                    break;
                case '(':
                    sort = OPENS;
                    break;
                case ')':
                    sort = CLOSES;
                    break;
                case '<':
                    sort = equalNext ? AT_MOST : LESS;
                    break;
                case '=':
                    sort = equalNext ? EQUAL : BAD;
                    break;
                case '!':
                    sort = equalNext ? UNLIKE : BAD;
                    break;
                default:
                    sort = BAD;
                    break;
            }
            if (sort == AT_MOST || sort == EQUAL || sort == UNLIKE) {
                next++;
            }
        }

        private static boolean isBlank(byte b) {
            return b == 9 || b == 10 || b == 13 || b == 32;
        }

        private static boolean isLetter(byte b) {
            return b >= 'a' && b <= 'z';
        }

        private static boolean isDigit(byte b) {
            return b >= '0' && b <= '9';
        }
    }

    /** Reads a text, TOKEN by TOKEN, into RULES: operators wait until those that bind closer have gone. */
    private static final class Reader {
        static final int MAX_TOKENS = 400;
        static final int MAX_RULES = 16;
        static final int MAX_DEPTH = 6;

        static final int WANTS_RULE = 0;
        static final int WANTS_UNIT = 1;
        static final int WANTS_LINK = 2;

        static final int IN_VALUE = 0;
        static final int IN_LEFT = 1;
        static final int IN_RIGHT = 2;

        // How close an operator binds, by its sort from Tape.OPENS on.
        private static final int[] RANKS = {0, 1, 2, 3, 3, 3, 3, 4, 4, 5};

        // Five ranks, and three more for each of six parentheses: 23 wait at most.
        final int[] waiting = new int[32];
        int waits;
        int wants;
        int side;
        int depth;
        Prices target;

        int readText(Tape tape, Prices prices) {
            target = prices;
            target.clear();
            waits = 0;
            wants = WANTS_RULE;
            depth = 0;
            tape.next = 0;
            for (int token = 0; token <= MAX_TOKENS; token++) {
                tape.scan();
                if (tape.sort == Tape.END) {
                    return wants == WANTS_RULE ? 0 : SYNTAX;
                }
                int fault = faultOf(tape.sort, token);
                if (fault != 0) {
                    return fault;
                }
                take(tape.sort, tape.value);
            }
            return ROOM;
        }

        private int faultOf(int sort, int token) {
            if (!goesOn(sort)) {
                return SYNTAX;
            }
            boolean crowded = token >= MAX_TOKENS
                || sort == Tape.RULE && target.rules >= MAX_RULES
                || sort == Tape.OPENS && depth >= MAX_DEPTH;
            return crowded ? ROOM : 0;
        }

        private boolean goesOn(int sort) {
            if (wants == WANTS_RULE) {
                return sort == Tape.RULE;
            }
            if (wants == WANTS_UNIT) {
                return sort == Tape.NUMBER || sort == Tape.NAME || sort == Tape.OPENS;
            }
            if (sort >= Tape.PLUS) {
                return true;
            }
            if (depth > 0) {
                return sort == Tape.CLOSES;
            }
            if (side == IN_LEFT) {
                return sort >= Tape.EQUAL && sort <= Tape.AT_MOST;
            }
            if (side == IN_RIGHT) {
                return sort == Tape.AND || sort == Tape.OR || sort == Tape.SEMICOLON;
            }
            return sort == Tape.IF || sort == Tape.SEMICOLON;
        }

        private void take(int sort, int value) {
            switch (sort) {
                case Tape.RULE:
                    target.begin(value);
                    side = IN_VALUE;
                    wants = WANTS_UNIT;
                    break;
                case Tape.NUMBER:
                    target.emit(value);
                    wants = WANTS_LINK;
                    break;
                case Tape.NAME:
                    target.emit(Prices.FIRST_VAR - value);
                    wants = WANTS_LINK;
                    break;
                case Tape.OPENS:
                    await(sort);
                    depth++;
                    break;
                case Tape.CLOSES:
                    release(1);
                    waits--;
                    depth--;
                    break;
                case Tape.IF:
                    release(1);
                    target.beginCondition();
                    side = IN_LEFT;
                    wants = WANTS_UNIT;
                    break;
                case Tape.SEMICOLON:
                    release(1);
                    target.end(side != IN_VALUE);
                    wants = WANTS_RULE;
                    break;
                default:
                    takeOperator(sort);
                    break;
            }
        }

        private void takeOperator(int sort) {
            release(rank(sort));
            await(sort);
            wants = WANTS_UNIT;
            if (sort == Tape.AND || sort == Tape.OR) {
                side = IN_LEFT;
            } else if (sort < Tape.PLUS) {
                side = IN_RIGHT;
            }
        }

        private void await(int sort) {
            if (waits < waiting.length) {
                waiting[waits] = sort;
                waits++;
            }
        }

        private void release(int least) {
            while (waits > 0 && rank(waiting[waits - 1]) >= least) {
                waits--;
                target.emit(-waiting[waits]);
            }
        }

        private static int rank(int sort) {
            int i = sort - Tape.OPENS;
            return i >= 0 && i < RANKS.length ? RANKS[i] : 0;
        }
    }

    /** The RULES of a text, each E and COND as a row of steps on a stack. */
    private static final class Prices {
        static final int HARM = 0;
        static final int PEEP = 3;
        static final int COST = 4;
        static final int DOUBT = 5;
        // A step is an INT if it is 0 or more, -(a sort of TOKENS), or FIRST_VAR less the VAR's number.
        static final int FIRST_VAR = -100;
        static final int VARS = 5;

        int rules;
        int size;
        final int[] sorts = new int[Reader.MAX_RULES];
        final int[] valueFrom = new int[Reader.MAX_RULES];
        final int[] valueTo = new int[Reader.MAX_RULES];
        final int[] conditionTo = new int[Reader.MAX_RULES];
        final int[] steps = new int[Reader.MAX_TOKENS];
        final int[] vars = new int[VARS];
        final int[] stack = new int[32];

        void clear() {
            rules = 0;
            size = 0;
        }

        void begin(int sort) {
            if (rules < Reader.MAX_RULES) {
                sorts[rules] = sort;
                valueFrom[rules] = size;
            }
        }

        void beginCondition() {
            if (rules < Reader.MAX_RULES) {
                valueTo[rules] = size;
            }
        }

        void end(boolean withCondition) {
            if (rules < Reader.MAX_RULES) {
                if (!withCondition) {
                    valueTo[rules] = size;
                }
                conditionTo[rules] = size;
                rules++;
            }
        }

        void emit(int step) {
            if (size < steps.length) {
                steps[size] = step;
                size++;
            }
        }

        void setVars(int kind, int layers, int column, int number, int below) {
            vars[0] = kind;
            vars[1] = layers;
            vars[2] = column;
            vars[3] = number;
            vars[4] = below;
        }

        /** The first RULE of a sort that holds for the VARS that were set. */
        int firstRule(int sort) {
            for (int rule = 0; rule < rules; rule++) {
                boolean isPlain = valueTo[rule] == conditionTo[rule];
                if (sorts[rule] == sort && (isPlain || run(valueTo[rule], conditionTo[rule]) != 0)) {
                    return rule;
                }
            }
            return NONE;
        }

        int worth(int rule) {
            return held(run(valueFrom[rule], valueTo[rule]));
        }

        int worthOfFirst(int sort, int without) {
            int rule = firstRule(sort);
            return rule == NONE ? without : worth(rule);
        }

        private int run(int from, int to) {
            int top = 0;
            for (int i = from; i < to; i++) {
                int step = steps[i];
                if (step >= 0 || step <= FIRST_VAR) {
                    if (top < stack.length) {
                        stack[top] = step >= 0 ? step : varOf(step);
                        top++;
                    }
                } else if (top >= 2) {
                    top--;
                    stack[top - 1] = joined(-step, stack[top - 1], stack[top]);
                }
            }
            return stack[0];
        }

        private int varOf(int step) {
            int i = FIRST_VAR - step;
            return i >= 0 && i < VARS ? vars[i] : 0;
        }

        private static int joined(int sort, int a, int b) {
            switch (sort) {
                case Tape.PLUS:
                    return a + b;
                case Tape.MINUS:
                    return a - b;
                case Tape.TIMES:
                    return a * b;
                case Tape.EQUAL:
                    return a == b ? 1 : 0;
                case Tape.UNLIKE:
                    return a != b ? 1 : 0;
                case Tape.LESS:
                    return a < b ? 1 : 0;
                case Tape.AT_MOST:
                    return a <= b ? 1 : 0;
                case Tape.AND:
                    return a & b;
                default:
                    return a | b;
            }
        }
    }

    /** THE PACKET: where each PART lies, and how. */
    private static final class Packet {
        int parts;
        int columns;
        final int[] column = new int[MAX_PARTS];
        final int[] layer = new int[MAX_PARTS];
        final boolean[] up = new boolean[MAX_PARTS];
        final int[] height = new int[MAX_PARTS];
        final int[] piles = new int[MAX_PARTS * MAX_PARTS];

        void layFlat(int count) {
            begin(count, count);
            for (int p = 0; p < parts; p++) {
                lay(p, p, 0, true);
            }
        }

        void copy(Packet other) {
            begin(other.parts, other.columns);
            for (int p = 0; p < parts; p++) {
                lay(p, other.column[p], other.layer[p], other.up[p]);
            }
        }

        void begin(int count, int width) {
            parts = count;
            columns = width;
            Arrays.fill(height, 0);
        }

        void lay(int p, int c, int l, boolean isUp) {
            // Places are reckoned, not counted up to: none may lie beyond the rows, whatever was reckoned.
            if (c < 0 || c >= MAX_PARTS || l < 0 || l >= MAX_PARTS) {
                return;
            }
            column[p] = c;
            layer[p] = l;
            up[p] = isUp;
            height[c]++;
            piles[MAX_PARTS * c + l] = p;
        }

        /** Becomes the other one, turned at a LINE and laid in at a LEVEL. */
        void turn(Packet other, int x, boolean left, int level) {
            int wide = other.columns;
            begin(other.parts, Math.max(x, wide - x));
            int least = left ? x : Math.min(0, 2 * x - wide);
            for (int p = 0; p < parts; p++) {
                int c = other.column[p];
                int l = other.layer[p];
                int across = 2 * x - 1 - c;
                int pile = across >= 0 && across < wide ? other.height[across] : 0;
                if (c < x == left) {
                    int turned = other.height[c] - 1 - l;
                    lay(p, across - least, Math.min(level, pile) + turned, !other.up[p]);
                } else {
                    lay(p, c - least, l < level ? l : l + pile, other.up[p]);
                }
            }
        }

        int turnedBy(int x, boolean left) {
            int turned = 0;
            for (int p = 0; p < parts; p++) {
                if (column[p] < x == left) {
                    turned++;
                }
            }
            return turned;
        }

        /** The MARKS that a turn at a LINE leaves, two bits for each two PARTS. */
        int creasesAt(int x, boolean over) {
            int creases = 0;
            for (int i = 0; i < parts - 1; i++) {
                if (!isCrease(i) && lineOf(i) == x) {
                    creases |= (up[i] == over ? 1 : 2) << (2 * i);
                }
            }
            return creases;
        }

        boolean isCrease(int i) {
            return column[i] == column[i + 1];
        }

        /** The LINE over which, or the side (as a LINE) on which PARTS i and i + 1 hang together. */
        int lineOf(int i) {
            if (isCrease(i)) {
                return up[i] ? column[i] + 1 : column[i];
            }
            return Math.max(column[i], column[i + 1]);
        }

        boolean passesThrough() {
            for (int i = 1; i < parts - 1; i++) {
                for (int j = 0; j < i; j++) {
                    if (lineOf(i) == lineOf(j) && clash(i, j)) {
                        return true;
                    }
                }
            }
            return false;
        }

        private boolean clash(int i, int j) {
            if (isCrease(i) && isCrease(j)) {
                return column[i] == column[j] && isBetween(i, j) != isBetween(i, j + 1);
            }
            if (isCrease(i)) {
                return isBetween(i, column[j] == column[i] ? j : j + 1);
            }
            if (isCrease(j)) {
                return isBetween(j, column[i] == column[j] ? i : i + 1);
            }
            boolean alike = column[i] == column[j];
            int near = alike ? j : j + 1;
            int far = alike ? j + 1 : j;
            return layer[i] < layer[near] != layer[i + 1] < layer[far];
        }

        /** Of a PART in the COLUMN of a CREASE; it is none of that one's own, as these hang on elsewhere. */
        private boolean isBetween(int i, int p) {
            return layer[i] < layer[p] != layer[i + 1] < layer[p];
        }

        int heightOf(int c) {
            return c < 0 || c >= columns ? NONE : height[c];
        }

        int partAt(int c, int l) {
            return l < 0 || l >= heightOf(c) ? NONE : piles[MAX_PARTS * c + l];
        }

        int mostLayers() {
            int most = 0;
            for (int c = 0; c < columns; c++) {
                most = Math.max(most, height[c]);
            }
            return most;
        }

        int highest(int c, int k) {
            int those = 0;
            for (int i = 1; i <= k; i++) {
                int p = partAt(c, heightOf(c) - i);
                if (p != NONE) {
                    those |= 1 << p;
                }
            }
            return those;
        }

        /** The FACES that SOIL makes dirty, a bit each. */
        int outerFaces() {
            int faces = 0;
            for (int c = 0; c < columns; c++) {
                int high = partAt(c, height[c] - 1);
                int low = partAt(c, 0);
                if (high != NONE && low != NONE) {
                    faces |= 1 << (up[high] ? 2 * high : 2 * high + 1);
                    faces |= 1 << (up[low] ? 2 * low + 1 : 2 * low);
                }
            }
            return faces;
        }

        boolean canBeRead(int p) {
            return up[p] ? layer[p] == height[column[p]] - 1 : layer[p] == 0;
        }

        /** The PART at which the text of PART p looks. */
        int facing(int p) {
            return partAt(column[p], up[p] ? layer[p] + 1 : layer[p] - 1);
        }

        boolean gapes(int p, int other) {
            boolean left = column[p] == 0 && !isHeld(p, other, 0);
            boolean right = column[p] == columns - 1 && !isHeld(p, other, columns);
            return left || right;
        }

        private boolean isHeld(int p, int other, int line) {
            int low = Math.min(layer[p], layer[other]);
            int high = Math.max(layer[p], layer[other]);
            for (int i = 0; i < parts - 1; i++) {
                if (isCrease(i) && lineOf(i) == line
                    && Math.min(layer[i], layer[i + 1]) <= low && Math.max(layer[i], layer[i + 1]) >= high) {
                    return true;
                }
            }
            return false;
        }

        /** All of this packet in 49 bits: as neighbours lie alike or turned, the first PART tells how all lie. */
        long packed() {
            long all = up[0] ? 1 : 0;
            for (int p = 0; p < parts; p++) {
                all = all << 6 | column[p] << 3 | layer[p];
            }
            return all;
        }

        void unpack(long all, int count) {
            begin(count, 0);
            boolean isUp = (all >> (6 * count) & 1) == 1;
            int before = NONE;
            for (int p = 0; p < count; p++) {
                int place = (int) (all >> (6 * (count - 1 - p))) & 63;
                int c = place >> 3;
                if (c == before) {
                    isUp = !isUp;
                }
                before = c;
                columns = Math.max(columns, c + 1);
                lay(p, c, place & 7, isUp);
            }
        }
    }

    /** A SHEET with its MARKS, the ACTS that are not undone, and THE PACKET ahead of each and now. */
    private static final class Sheet {
        int parts;
        int acts;
        int creases;
        int dirt;
        final int[] slits = new int[MAX_PARTS];
        final int[] wax = new int[MAX_PARTS];
        final Packet[] packets = new Packet[MAX_ACTS + 1];
        final int[] kinds = new int[MAX_ACTS];
        final int[] layersOf = new int[MAX_ACTS];
        final int[] columnOf = new int[MAX_ACTS];
        final int[] belowOf = new int[MAX_ACTS];
        final int[] bound = new int[MAX_ACTS];
        int leastHarm;
        int leastUndone;

        Sheet() {
            for (int i = 0; i <= MAX_ACTS; i++) {
                packets[i] = new Packet();
            }
        }

        void layFlat(int count) {
            parts = count;
            acts = 0;
            creases = 0;
            dirt = 0;
            Arrays.fill(slits, 0);
            Arrays.fill(wax, 0);
            packets[0].layFlat(count);
        }

        Packet packet() {
            return packets[acts];
        }

        boolean hasPart(int p) {
            return p >= 0 && p < parts;
        }

        boolean hasAct(int act) {
            return act >= 0 && act < acts;
        }

        int turnAt(int kind, int x, boolean left, int level) {
            Packet ahead = packet();
            if (acts >= MAX_ACTS || x < 1 || x >= ahead.columns) {
                return NONE;
            }
            Packet turned = packets[acts + 1];
            turned.turn(ahead, x, left, level);
            if (kind == TUCK && turned.passesThrough()) {
                return CANNOT;
            }
            creases |= ahead.creasesAt(x, level > 0);
            return keep(kind, ahead.turnedBy(x, left), x, 0, 0);
        }

        int cut(int c, int k) {
            if (acts >= MAX_ACTS || k < 1 || packet().heightOf(c) < k) {
                return NONE;
            }
            raise(slits, packet().highest(c, k));
            return keepOnPile(SLIT, c, k, 0);
        }

        int bindByStrip(int c, int k) {
            if (acts >= MAX_ACTS || k < 2 || packet().heightOf(c) < k) {
                return NONE;
            }
            int those = packet().highest(c, k);
            if ((those & ~slitParts()) != 0) {
                return CANNOT;
            }
            return keepOnPile(LOCK, c, k, those);
        }

        int bindByWax(int c) {
            if (acts >= MAX_ACTS || packet().heightOf(c) < 2) {
                return NONE;
            }
            int those = packet().highest(c, 2);
            raise(wax, those);
            return keepOnPile(SEAL, c, 2, those);
        }

        int dirty() {
            if (acts >= MAX_ACTS) {
                return NONE;
            }
            dirt |= packet().outerFaces();
            packets[acts + 1].copy(packet());
            return keep(SOIL, 0, 0, 0, 0);
        }

        int slitParts() {
            int those = 0;
            for (int p = 0; p < parts; p++) {
                if (slits[p] > 0) {
                    those |= 1 << p;
                }
            }
            return those;
        }

        private void raise(int[] marks, int those) {
            for (int p = 0; p < parts; p++) {
                marks[p] += those >> p & 1;
            }
        }

        private int keepOnPile(int kind, int c, int k, int those) {
            packets[acts + 1].copy(packet());
            return keep(kind, k, c, packet().heightOf(c) - k, those);
        }

        private int keep(int kind, int layers, int column, int below, int those) {
            kinds[acts] = kind;
            layersOf[acts] = layers;
            columnOf[acts] = column;
            belowOf[acts] = below;
            bound[acts] = those;
            acts++;
            return acts - 1;
        }

        int harmOf(int act, Prices prices) {
            int rule = harmRule(act, prices);
            if (rule != NONE) {
                // The VARS are still those that harmRule has set.
                return prices.worth(rule);
            }
            return kinds[act] == LOCK || kinds[act] == SEAL ? USUAL_PRICE : 0;
        }

        int harmRule(int act, Prices prices) {
            prices.setVars(kinds[act], layersOf[act], columnOf[act], act, belowOf[act]);
            int best = NONE;
            int least = 0;
            for (int sort = Prices.HARM; sort < Prices.PEEP; sort++) {
                int rule = prices.firstRule(sort);
                if (rule != NONE) {
                    int worth = prices.worth(rule);
                    if (best == NONE || worth < least || worth == least && rule < best) {
                        best = rule;
                        least = worth;
                    }
                }
            }
            return best;
        }

        int harmOfAll(Prices prices) {
            int harm = 0;
            for (int act = 0; act < acts; act++) {
                harm += harmOf(act, prices);
            }
            return harm;
        }

        int sightOf(int p, Prices prices) {
            if (packet().canBeRead(p)) {
                return 1;
            }
            return peepPrice(p, acts, prices) == NONE ? 0 : 2;
        }

        /** What a peep at a PART costs while so many ACTS are left; NONE: it can't be. */
        private int peepPrice(int p, int left, Prices prices) {
            Packet then = packets[left];
            int other = then.facing(p);
            if (other == NONE || areBound(p, other, left) || !then.gapes(p, other)) {
                return NONE;
            }
            int c = then.column[p];
            prices.setVars(PEEPING, then.height[c], c, p, then.layer[p]);
            return prices.worthOfFirst(Prices.PEEP, NONE);
        }

        private boolean areBound(int p, int other, int left) {
            int both = 1 << p | 1 << other;
            for (int act = 0; act < left; act++) {
                if ((bound[act] & both) == both) {
                    return true;
                }
            }
            return false;
        }

        /** Finds EASE of a PART, and how many ACTS are undone for it. */
        void weigh(int p, Prices prices) {
            int harm = 0;
            leastHarm = NONE;
            leastUndone = NONE;
            for (int left = acts; left >= 0; left--) {
                if (left < acts) {
                    harm += harmOf(left, prices);
                }
                int sight = packets[left].canBeRead(p) ? 0 : peepPrice(p, left, prices);
                if (sight != NONE && (leastHarm == NONE || harm + sight < leastHarm)) {
                    leastHarm = harm + sight;
                    leastUndone = acts - left;
                }
            }
        }
    }

    /** All that 0 .. 3 FOLDS and TUCKS make of a SHEET: each outcome once, with the first way to it and how many. */
    private static final class Outcomes {
        static final int MAX_TURNS = 3;
        // Eight PARTS have 1,281 outcomes, the most by three turns: 1,040, for which the slots are twice enough.
        static final int MAX_OUTCOMES = 1300;
        static final int SLOTS = 2048;
        static final int CREASE_SHIFT = 49;
        static final int ACT_BITS = 10;

        int parts;
        int size;
        final long[] keys = new long[MAX_OUTCOMES];
        final int[] ways = new int[MAX_OUTCOMES];
        final int[] firstWay = new int[MAX_OUTCOMES];
        final int[] levelEnd = new int[MAX_TURNS + 1];
        final int[] slots = new int[SLOTS];
        final Packet from = new Packet();
        final Packet to = new Packet();

        void prepare(int count) {
            if (parts == count) {
                return;
            }
            parts = count;
            size = 0;
            to.layFlat(count);
            startLevel();
            add(to.packed(), 1, 0);
            levelEnd[0] = size;
            int begin = 0;
            for (int turns = 1; turns <= MAX_TURNS; turns++) {
                startLevel();
                int end = size;
                for (int i = begin; i < end; i++) {
                    turnOn(i);
                }
                begin = end;
                levelEnd[turns] = size;
            }
        }

        int creasesOf(int i) {
            return (int) (keys[i] >> CREASE_SHIFT);
        }

        int turnsOf(int i) {
            int turns = 0;
            while (turns < MAX_TURNS && i >= levelEnd[turns]) {
                turns++;
            }
            return turns;
        }

        int actOf(int i, int act) {
            int behind = turnsOf(i) - 1 - act;
            return firstWay[i] >> (ACT_BITS * behind) & (1 << ACT_BITS) - 1;
        }

        void unpack(Packet packet, int i) {
            packet.unpack(keys[i] & (1L << CREASE_SHIFT) - 1, parts);
        }

        /** By numbers, so that each outcome is met by its first way first. */
        private void turnOn(int i) {
            unpack(from, i);
            int most = from.mostLayers();
            for (int x = 1; x < from.columns; x++) {
                int over = creasesOf(i) | from.creasesAt(x, true);
                int under = creasesOf(i) | from.creasesAt(x, false);
                for (int side = 0; side < 2; side++) {
                    int act = 100 * x + 10 * side;
                    boolean left = side == 0;
                    addTurned(i, act, left, ABOVE_ALL, over);
                    addTurned(i, act + 1, left, 0, under);
                    for (int level = 1; level < most; level++) {
                        addTurned(i, act + 1 + level, left, level, over);
                    }
                }
            }
        }

        private void addTurned(int i, int act, boolean left, int level, int creases) {
            to.turn(from, act / 100, left, level);
            boolean isTuck = level > 0 && level < ABOVE_ALL;
            if (isTuck && to.passesThrough()) {
                return;
            }
            add((long) creases << CREASE_SHIFT | to.packed(), ways[i], firstWay[i] << ACT_BITS | act);
        }

        private void startLevel() {
            Arrays.fill(slots, NONE);
        }

        private void add(long key, int more, int way) {
            int slot = (int) (key * 0x9E3779B97F4A7C15L >>> 53);
            for (int probe = 0; probe < SLOTS; probe++) {
                int i = slots[slot];
                if (i == NONE) {
                    append(slot, key, more, way);
                    return;
                }
                if (keys[i] == key) {
                    ways[i] += more;
                    return;
                }
                slot = slot + 1 & SLOTS - 1;
            }
        }

        private void append(int slot, long key, int more, int way) {
            if (size < MAX_OUTCOMES) {
                slots[slot] = size;
                keys[size] = key;
                ways[size] = more;
                firstWay[size] = way;
                size++;
            }
        }
    }

    /** FINDS, and the ROWS that FIT them. */
    private static final class Finds {
        static final int ALL_CREASES = 1 << 2 * (MAX_PARTS - 1);
        static final int SLIT_NUMBER = 1000;
        static final int SOIL_NUMBER = 2000;
        // Of the 32 sets that a word tells of, those that have the element 0, 1, 2, 3 or 4.
        private static final int[] WITH = {0xAAAAAAAA, 0xCCCCCCCC, 0xF0F0F0F0, 0xFF00FF00, 0xFFFF0000};

        int parts;
        int creaseKnown;
        int creases;
        int slitKnown;
        int slits;
        int dirtKnown;
        int dirt;
        boolean searched;
        int fitting;
        int firstOutcome;
        int firstSlit;
        boolean firstSoil;
        int leastSlit;
        final Outcomes outcomes = new Outcomes();
        final Packet packet = new Packet();
        final int[] within = new int[ALL_CREASES / 32];

        void forget(int count) {
            parts = count;
            creaseKnown = 0;
            creases = 0;
            slitKnown = 0;
            slits = 0;
            dirtKnown = 0;
            dirt = 0;
            searched = false;
        }

        boolean noteCrease(int i, int v) {
            if (i < 0 || i >= parts - 1 || v < NONE || v > 3) {
                return false;
            }
            int bits = 3 << (2 * i);
            creaseKnown = v == NONE ? creaseKnown & ~bits : creaseKnown | bits;
            creases = creases & ~bits | (v == NONE ? 0 : v << (2 * i));
            searched = false;
            return true;
        }

        boolean noteSlit(int i, int v) {
            if (i < 0 || i >= parts || v < NONE || v > 1) {
                return false;
            }
            int bit = 1 << i;
            slitKnown = v == NONE ? slitKnown & ~bit : slitKnown | bit;
            slits = v == 1 ? slits | bit : slits & ~bit;
            searched = false;
            return true;
        }

        boolean noteDirt(int i, int v) {
            if (i < 0 || i >= 2 * parts || v < NONE || v > 1) {
                return false;
            }
            int bit = 1 << i;
            dirtKnown = v == NONE ? dirtKnown & ~bit : dirtKnown | bit;
            dirt = v == 1 ? dirt | bit : dirt & ~bit;
            searched = false;
            return true;
        }

        void noteAll(Sheet sheet) {
            creaseKnown = (1 << 2 * (parts - 1)) - 1;
            creases = sheet.creases;
            slitKnown = (1 << parts) - 1;
            slits = sheet.slitParts();
            dirtKnown = (1 << 2 * parts) - 1;
            dirt = sheet.dirt;
            searched = false;
        }

        void search() {
            if (searched) {
                return;
            }
            searched = true;
            outcomes.prepare(parts);
            fitting = 0;
            firstOutcome = NONE;
            for (int i = 0; i < outcomes.size; i++) {
                if ((outcomes.creasesOf(i) & creaseKnown) == creases) {
                    countEndings(i);
                }
            }
        }

        private void countEndings(int i) {
            outcomes.unpack(packet, i);
            int endings = slitEndings() * soilEndings();
            if (endings > 0 && firstOutcome == NONE) {
                firstOutcome = i;
                firstSlit = leastSlit;
                firstSoil = dirt != 0;
            }
            fitting += endings * outcomes.ways[i];
        }

        /** How many SLITS, or none, fit; leastSlit becomes the number of the first, 0 if that is none. */
        private int slitEndings() {
            int fits = slits == 0 ? 1 : 0;
            leastSlit = 0;
            for (int c = 0; c < packet.columns; c++) {
                for (int k = 1; k <= packet.height[c]; k++) {
                    if (fitsSlit(c, k)) {
                        leastSlit = fits == 0 ? SLIT_NUMBER + 10 * c + k : leastSlit;
                        fits++;
                    }
                }
            }
            return fits;
        }

        private boolean fitsSlit(int c, int k) {
            return (packet.highest(c, k) & slitKnown) == slits;
        }

        private int soilEndings() {
            int without = dirt == 0 ? 1 : 0;
            int with = (packet.outerFaces() & dirtKnown) == dirt ? 1 : 0;
            return without + with;
        }

        int firstAct(int i) {
            if (firstOutcome == NONE || i < 0) {
                return NONE;
            }
            int turns = outcomes.turnsOf(firstOutcome);
            if (i < turns) {
                return outcomes.actOf(firstOutcome, i);
            }
            int behind = i - turns;
            if (firstSlit != 0) {
                if (behind == 0) {
                    return firstSlit;
                }
                behind--;
            }
            return behind == 0 && firstSoil ? SOIL_NUMBER : NONE;
        }

        /** Whether the CREASES of two ROWS together are those known: those that one lacks lie within another's. */
        boolean isShutTwice() {
            collectWithin();
            for (int i = 0; i < outcomes.size; i++) {
                int one = outcomes.creasesOf(i) & creaseKnown;
                int lacking = creases & ~one;
                if ((one & ~creases) == 0 && (within[lacking >> 5] >> (lacking & 31) & 1) == 1) {
                    return true;
                }
            }
            return false;
        }

        /** All sets of CREASES that lie within those of a ROW that has none beyond the known ones. */
        private void collectWithin() {
            Arrays.fill(within, 0);
            for (int i = 0; i < outcomes.size; i++) {
                int one = outcomes.creasesOf(i) & creaseKnown;
                if ((one & ~creases) == 0) {
                    within[one >> 5] |= 1 << (one & 31);
                }
            }
            for (int bit = 0; bit < WITH.length; bit++) {
                for (int word = 0; word < within.length; word++) {
                    within[word] |= (within[word] & WITH[bit]) >>> (1 << bit);
                }
            }
            for (int step = 1; step < within.length; step *= 2) {
                for (int word = 0; word < within.length; word++) {
                    if ((word & step) != 0) {
                        within[word - step] |= within[word];
                    }
                }
            }
        }
    }

    /** THE WAY: HANDS and LOOKS, and the TALES of least COST. */
    private static final class Way {
        static final int MAX_HANDS = 6;
        static final int MAX_DAYS = 36;
        static final int MAX_LOOKS = 40;
        static final int STATES = 3;

        int hands;
        int days;
        int looks;
        boolean priced;
        final int[] handOf = new int[MAX_DAYS];
        final int[] lookDay = new int[MAX_LOOKS];
        final int[] seen = new int[MAX_LOOKS];
        final int[] openCost = new int[MAX_DAYS];
        final int[] shutCost = new int[MAX_DAYS];
        final int[] doubtCost = new int[MAX_LOOKS];
        // Of each DAY and what a TALE tells of it: the doubts in the KNOWN LOOKS.
        final int[] doubts = new int[MAX_DAYS * STATES];
        // From each DAY on, by what was told of the DAY ahead: the least COST, and how many TALES have it.
        final int[] least = new int[(MAX_DAYS + 1) * STATES];
        final long[] many = new long[(MAX_DAYS + 1) * STATES];
        final int[] first = new int[MAX_DAYS];

        int addHand(int more) {
            if (hands >= MAX_HANDS || more < 1 || more > MAX_DAYS - days) {
                return NONE;
            }
            for (int i = 0; i < more; i++) {
                handOf[days] = hands;
                days++;
            }
            priced = false;
            hands++;
            return hands - 1;
        }

        int addLook(int day, int what) {
            if (looks >= MAX_LOOKS || day < 0 || day >= days || what < WHOLE || what > SHUT_AGAIN) {
                return NONE;
            }
            lookDay[looks] = day;
            seen[looks] = what;
            priced = false;
            looks++;
            return looks - 1;
        }

        boolean knows(int n) {
            return n >= 0 && n <= looks;
        }

        void know(int n, Prices prices) {
            setCosts(prices);
            Arrays.fill(doubts, 0);
            for (int i = 0; i < n; i++) {
                addDoubt(i);
            }
        }

        private void addDoubt(int i) {
            for (int state = WHOLE; state <= SHUT_AGAIN; state++) {
                if (state != seen[i]) {
                    doubts[STATES * lookDay[i] + state] += doubtCost[i];
                }
            }
        }

        private void setCosts(Prices prices) {
            if (priced) {
                return;
            }
            priced = true;
            for (int day = 0; day < days; day++) {
                prices.setVars(OPENING, 0, day, handOf[day], 0);
                openCost[day] = prices.worthOfFirst(Prices.COST, USUAL_PRICE);
                prices.setVars(SHUTTING, 0, day, handOf[day], 0);
                shutCost[day] = prices.worthOfFirst(Prices.COST, USUAL_PRICE);
            }
            for (int i = 0; i < looks; i++) {
                prices.setVars(DOUBTING, 0, lookDay[i], handOf[lookDay[i]], seen[i]);
                doubtCost[i] = prices.worthOfFirst(Prices.DOUBT, USUAL_PRICE);
            }
        }

        /** Finds least and many, last DAY first, of the TALES in which a HAND (or NONE) does not open. */
        void weigh(int idleHand) {
            for (int state = WHOLE; state <= SHUT_AGAIN; state++) {
                least[STATES * days + state] = 0;
                many[STATES * days + state] = 1;
            }
            for (int day = days - 1; day >= 0; day--) {
                for (int state = WHOLE; state <= SHUT_AGAIN; state++) {
                    weighDay(day, state, handOf[day] == idleHand);
                }
            }
        }

        private void weighDay(int day, int state, boolean idle) {
            int stayCost = costFrom(day, state, state);
            long stayMany = many[STATES * (day + 1) + state];
            int other = state == OPEN ? SHUT_AGAIN : OPEN;
            int here = STATES * day + state;
            int otherCost = costFrom(day, state, other);
            long otherMany = many[STATES * (day + 1) + other];
            if (idle && other == OPEN || stayCost < otherCost) {
                least[here] = stayCost;
                many[here] = stayMany;
            } else {
                least[here] = otherCost;
                many[here] = stayCost == otherCost ? stayMany + otherMany : otherMany;
            }
        }

        private int costFrom(int day, int state, int next) {
            int change = 0;
            if (next != state) {
                change = next == OPEN ? openCost[day] : shutCost[day];
            }
            return change + doubts[STATES * day + next] + least[STATES * (day + 1) + next];
        }

        int leastCost() {
            return least[WHOLE];
        }

        long howMany() {
            return many[WHOLE];
        }

        /** Finds the first BEST TALE; true if it is another one than was found before. */
        boolean tell() {
            boolean isOther = false;
            int state = WHOLE;
            for (int day = 0; day < days; day++) {
                int other = state == OPEN ? SHUT_AGAIN : OPEN;
                int lesser = Math.min(state, other);
                int next = costFrom(day, state, lesser) == least[STATES * day + state] ? lesser : state + other - lesser;
                isOther |= first[day] != next;
                first[day] = next;
                state = next;
            }
            return isOther;
        }

        int guiltOf(int hand) {
            weigh(NONE);
            int best = leastCost();
            long all = howMany();
            weigh(hand);
            long idle = leastCost() == best ? howMany() : 0;
            if (idle == 0) {
                return 1;
            }
            return idle == all ? 0 : 2;
        }

        /** The first LOOK, those ahead of it being KNOWN, that turns the first BEST TALE. */
        int firstTurn(int from) {
            weigh(NONE);
            tell();
            for (int i = from; i < looks; i++) {
                addDoubt(i);
                weigh(NONE);
                if (tell()) {
                    return i;
                }
            }
            return NONE;
        }
    }
}
