/** The edges that the document names in promises 13 and 18 to 21 and in sections III and IV, a method for each sentence. */
public final class PriceEdgesTest {
    private static final Check CHECK = new Check("PriceEdgesTest");
    private static final int LEAST = Integer.MIN_VALUE;
    private static final int MOST = Integer.MAX_VALUE;
    /** 2 to the power of 31, which wraps to the least int. */
    private static final String WRAPPED = "8192*8192*32";

    public static void main(String[] args) {
        intsWrap();
        pricesAreHeld();
        relationsAtTheirEdge();
        andOr();
        signsThatBindCloser();
        manyTextsBehindOneAnother();
        layersTurned();
        layersOfPiles();
        columnsAndLines();
        numbersOfActs();
        belowThePile();
        varsOfSoil();
        harmWithoutRules();
        harmIsTheLeastOfThree();
        firstRuleThatHolds();
        harmOfNoSuchAct();
        byTheLeastNumber();
        byNone();
        undoTellsHarm();
        harmOfAll();
        readAtTheEnds();
        readBeforePeeped();
        peepWithoutRule();
        peepOnTheOuterSides();
        peepBetweenCreases();
        peepBetweenBoundLayers();
        peepVars();
        peepIsHeld();
        easeWithoutActs();
        easeOfAllActs();
        easeOfTheFewest();
        easeBehindEachAct();
        CHECK.end();
    }

    /** What a text tells as harm of the first ACT, a FOLD. */
    private static int worth(String text) {
        LockedLetter x = new LockedLetter();
        x.fold(2, true, true);
        CHECK.due("read of " + text, Check.read(x, text), 0);
        return x.harm(0);
    }

    private static void holds(String condition, boolean due) {
        CHECK.due(condition, worth("harm 1 if " + condition + "; harm 2;"), due ? 1 : 2);
    }

    // ---- ints

    private static void intsWrap() {
        holds(WRAPPED + " < 0", true);
        holds(WRAPPED + " - 1 < 0", false);
        holds(WRAPPED + " - 1 == 0 - " + WRAPPED + " - 1", true);
        holds("0 - " + WRAPPED + " < 0", true);
        holds(WRAPPED + " * 2 == 0", true);
        holds(WRAPPED + " + " + WRAPPED + " == 0", true);
        holds(WRAPPED + " <= " + WRAPPED + " - 1", true);
        holds(WRAPPED + " - 1 < " + WRAPPED, false);
        holds("0 - 1 < " + WRAPPED + " - 1", true);
        holds(WRAPPED + " < 0 - 1", true);
    }

    private static void pricesAreHeld() {
        CHECK.due("one below 0", worth("harm 0-1;"), 0);
        CHECK.due("0", worth("harm 0;"), 0);
        CHECK.due("1", worth("harm 1;"), 1);
        CHECK.due("999", worth("harm 999;"), 999);
        CHECK.due("1000", worth("harm 1000;"), 1000);
        CHECK.due("1001", worth("harm 1001;"), 1000);
        CHECK.due("the most int", worth("harm " + WRAPPED + "-1;"), 1000);
        CHECK.due("the least int", worth("harm " + WRAPPED + ";"), 0);
        CHECK.due("only the whole E is held", worth("harm 2000-1500;"), 500);
        CHECK.due("only the whole E is held", worth("harm 1-2+3;"), 2);
        CHECK.due("a cut is held", worth("cut 0-5;"), 0);
        CHECK.due("a trick is held", worth("trick 5000;"), 1000);
        holds("1001 == 1000", false);
        holds("0 - 1 == 0", false);
    }

    private static void relationsAtTheirEdge() {
        holds("4 < 5", true);
        holds("5 < 5", false);
        holds("6 < 5", false);
        holds("4 <= 5", true);
        holds("5 <= 5", true);
        holds("6 <= 5", false);
        holds("4 == 5", false);
        holds("5 == 5", true);
        holds("4 != 5", true);
        holds("5 != 5", false);
    }

    private static void andOr() {
        String[] relations = {"5==6", "8<=8", "4!=4", "2<7", "9<3", "6==6"};
        for (int i = 0; i < 8; i++) {
            boolean a = (i & 1) != 0;
            boolean b = (i & 2) != 0;
            boolean c = (i & 4) != 0;
            String first = relations[i & 1];
            String second = relations[2 + (i >> 1 & 1)];
            String third = relations[4 + (i >> 2 & 1)];
            holds(first + " and " + second + " or " + third, a && b || c);
            holds(first + " or " + second + " and " + third, a || b && c);
            holds(first + " or " + second + " or " + third, a || b || c);
            holds(first + " and " + second + " and " + third, a && b && c);
        }
    }

    /** What each of two neighbours in the grammar would tell if the other one bound closer is another number. */
    private static void signsThatBindCloser() {
        CHECK.due("* ahead of +", worth("harm 10+3*2;"), 16);
        CHECK.due("* ahead of -", worth("harm 10-3*2;"), 4);
        CHECK.due("* ahead of +", worth("harm 3*2+10;"), 16);
        CHECK.due("- from the left", worth("harm 10-3-2;"), 5);
        CHECK.due("- and + from the left", worth("harm 10-3+2;"), 9);
        CHECK.due("+ and - from the left", worth("harm 10+3-2;"), 11);
        CHECK.due("( ) ahead of *", worth("harm (10-3)*2;"), 14);
        CHECK.due("( ) ahead of *", worth("harm 2*(10-3)+1;"), 15);
        CHECK.due("( ) ahead of -", worth("harm 10-(3-2);"), 9);
        CHECK.due("( ) in ( )", worth("harm 20-(10-(3-2)*(1+1))*2;"), 4);
        CHECK.due("six ( ) in one another", worth("harm 9-(8-(7-(6-(5-(4-(3))))));"), 6);
        for (String sign : new String[] {"==", "!=", "<", "<="}) {
            boolean isLess = sign.equals("<") || sign.equals("<=");
            boolean isAlike = sign.equals("==") || sign.equals("<=");
            holds("4+3*2 " + sign + " 10", isAlike);
            holds("10 " + sign + " 4+3*2", isAlike);
            holds("10 " + sign + " 4+5", sign.equals("!="));
            holds("9-3 " + sign + " 9-2", isLess || sign.equals("!="));
            holds("9-2 " + sign + " 9-3", sign.equals("!="));
            holds("2*3 " + sign + " 3*2", isAlike);
            holds("5 " + sign + " 5 and 6 " + sign + " 6", isAlike);
            holds("5 " + sign + " 5 and 7 " + sign + " 6", false);
            holds("6 " + sign + " 7 and 7 " + sign + " 6", sign.equals("!="));
            holds("5 " + sign + " 5 or 6 " + sign + " 7", true);
            holds("1 != 2 and 6 == 6 and 1 < 2 and 3 <= 3 and 7 " + sign + " 7", isAlike);
        }
        CHECK.due("a sum ahead of if", worth("harm 1+2*3 if 1==1; harm 20;"), 7);
        CHECK.due("a sum ahead of if", worth("harm 1+2*3 if 1==2; harm 4+5*6;"), 34);
    }

    private static void manyTextsBehindOneAnother() {
        LockedLetter x = new LockedLetter();
        x.fold(1, true, true);
        for (int i = 0; i < 5; i++) {
            CHECK.due("a long text", Check.read(x, "harm 1" + "+1".repeat(190) + ";"), 0);
            CHECK.due("its sum", x.harm(0), 191);
        }
        for (String broken : new String[] {"harm 1+2*(3-(", "harm 1+2*(3-(4", "harm (1)+2 if (3)*4", "harm 1 if 2==3 and (((((((", "harm 1+"}) {
            CHECK.due("a text that breaks off", Check.read(x, broken) > 0, true);
            CHECK.due("one that does not", Check.read(x, "harm 5 if 2*3==6 and 1<2; cut (7)-1;"), 0);
            CHECK.due("the least of both", x.harm(0), 5);
            CHECK.due("by the first", x.by(0), 0);
            CHECK.due("rules", x.count(3), 2);
        }
        LockedLetter y = new LockedLetter();
        y.fold(1, true, true);
        for (int i = 0; i < 40; i++) {
            CHECK.due("a text that breaks off", Check.read(y, "harm (1+("), 1);
        }
        CHECK.due("one that does not", Check.read(y, "harm 10-(3-2)*(2+2) if 2*3==6 and 1<2;"), 0);
        CHECK.due("its harm", y.harm(0), 6);
    }

    // ---- VARS of an ACT

    private static LockedLetter withVar(String var, int parts) {
        LockedLetter x = Check.of(parts);
        Check.read(x, "harm " + var + ";");
        return x;
    }

    private static void layersTurned() {
        for (int line = 1; line < 8; line++) {
            LockedLetter x = withVar("layers", 8);
            x.fold(line, true, true);
            CHECK.due("parts left of " + line, x.harm(0), line);
            x.undo();
            x.fold(line, false, false);
            CHECK.due("parts right of " + line, x.harm(0), 8 - line);
            x.undo();
            x.tuck(line, false, 3);
            CHECK.due("parts tucked", x.harm(0), 8 - line);
        }
        LockedLetter y = withVar("layers", 8);
        y.fold(4, true, true);
        y.fold(2, true, true);
        y.fold(1, true, true);
        CHECK.due("all parts of two columns", y.harm(1), 4);
        CHECK.due("all parts of one column", y.harm(2), 4);
    }

    /** Three FOLDS to one COLUMN of eight, then the ACTS on it. */
    private static LockedLetter onePile(String var) {
        LockedLetter x = withVar(var, 8);
        x.fold(4, true, true);
        x.fold(2, true, true);
        x.fold(1, true, true);
        x.slit(0, 1);
        x.slit(0, 8);
        x.lock(0, 2);
        x.lock(0, 8);
        x.seal(0);
        x.soil();
        return x;
    }

    private static void harms(String what, LockedLetter x, int... due) {
        for (int act = 0; act < due.length; act++) {
            CHECK.due(what + ": harm(" + act + ")", x.harm(act), due[act]);
        }
        CHECK.due(what + ": no more acts", x.harm(due.length), -1);
    }

    private static void layersOfPiles() {
        harms("layers", onePile("layers"), 4, 4, 4, 1, 8, 2, 8, 2, 0);
        harms("kind", onePile("kind"), 0, 0, 0, 2, 2, 3, 3, 4, 5);
        LockedLetter x = withVar("kind", 4);
        x.tuck(2, true, 0);
        x.tuck(1, true, 8);
        harms("kind of tucks", x, 1, 1);
    }

    private static void columnsAndLines() {
        harms("lines, and column 0", onePile("column"), 4, 2, 1, 0, 0, 0, 0, 0, 0);
        LockedLetter x = withVar("column", 8);
        x.slit(7, 1);
        x.slit(0, 1);
        x.fold(7, false, true);
        x.slit(6, 2);
        x.lock(6, 2);
        x.seal(6);
        x.tuck(6, false, 1);
        harms("the last columns and lines", x, 7, 0, 7, 6, 6, 6, 6);
    }

    private static void numbersOfActs() {
        harms("number", onePile("number"), 0, 1, 2, 3, 4, 5, 6, 7, 8);
        LockedLetter x = withVar("number", 4);
        Letters.sixteenActs(x);
        harms("sixteen", x, 0, 1, 2, 3, 4, 5, 6, 7, 8, 9, 10, 11, 12, 13, 14, 15);
        x.undo();
        x.undo();
        x.slit(0, 1);
        CHECK.due("a number again", x.harm(14), 14);
    }

    private static void belowThePile() {
        harms("below", onePile("below"), 0, 0, 0, 7, 0, 6, 0, 6, 0);
        LockedLetter x = withVar("below", 3);
        x.fold(1, true, true);
        x.seal(0);
        x.fold(1, false, true);
        x.seal(0);
        harms("of two layers and of three", x, 0, 0, 0, 1);
    }

    private static void varsOfSoil() {
        for (String var : new String[] {"layers", "column", "below"}) {
            LockedLetter x = withVar(var, 8);
            x.soil();
            CHECK.due(var + " of soil", x.harm(0), 0);
            x.fold(4, true, true);
            x.soil();
            CHECK.due(var + " of soil", x.harm(2), 0);
        }
    }

    // ---- promises 13, 18 and 19

    private static void harmWithoutRules() {
        LockedLetter x = Check.of(8);
        Check.read(x, "harm 3 if kind == 6; cut 3 if 1 == 2; trick 3 if number < 0; peep 3; opens 3; doubt 3;");
        x.fold(4, true, true);
        x.tuck(2, true, 4);
        x.slit(0, 4);
        x.lock(0, 4);
        x.seal(0);
        x.soil();
        harms("no rule holds", x, 0, 0, 0, 10, 10, 0);
        x.read();
        harms("no rules", x, 0, 0, 0, 10, 10, 0);
        CHECK.due("of all", x.count(5), 20);
    }

    private static void harmIsTheLeastOfThree() {
        String[] sorts = {"harm", "cut", "trick"};
        for (int least = 0; least < 3; least++) {
            StringBuilder text = new StringBuilder();
            for (int i = 0; i < 3; i++) {
                text.append(sorts[i]).append(i == least ? " 4;" : " 5;");
            }
            CHECK.due(text.toString(), worth(text.toString()), 4);
            CHECK.due("alone", worth(sorts[least] + " 4;"), 4);
            CHECK.due("even more than the usual", worth(sorts[least] + " 40;"), 40);
        }
        LockedLetter x = Check.of(2);
        x.fold(1, true, true);
        x.seal(0);
        Check.read(x, "cut 11;");
        CHECK.due("more than the usual 10", x.harm(1), 11);
        Check.read(x, "cut 0;");
        CHECK.due("nothing", x.harm(1), 0);
    }

    private static void firstRuleThatHolds() {
        CHECK.due("the first, not the least", worth("cut 5; cut 4;"), 5);
        CHECK.due("the first that holds", worth("cut 3 if kind == 1; cut 5 if kind == 0; cut 4;"), 5);
        CHECK.due("one without a condition", worth("cut 3 if kind == 1; cut 5; cut 4 if kind == 0;"), 5);
        String fifteen = "cut 3 if kind == 1;".repeat(15);
        CHECK.due("the sixteenth", worth(fifteen + "cut 8;"), 8);
        CHECK.due("none of sixteen", worth(fifteen + "cut 8 if kind == 1;"), 0);
    }

    private static void harmOfNoSuchAct() {
        LockedLetter x = new LockedLetter();
        Check.read(x, "harm 7;");
        for (int act : new int[] {LEAST, -1, 0, 1, 15, 16, MOST}) {
            CHECK.due("harm(" + act + ") without acts", x.harm(act), -1);
            CHECK.due("by(" + act + ") without acts", x.by(act), -1);
        }
        Letters.sixteenActs(x);
        for (int act : new int[] {LEAST, -1, 16, 17, MOST}) {
            CHECK.due("harm(" + act + ") of sixteen", x.harm(act), -1);
            CHECK.due("by(" + act + ") of sixteen", x.by(act), -1);
        }
        for (int act : new int[] {0, 15}) {
            CHECK.due("harm(" + act + ")", x.harm(act), 7);
            CHECK.due("by(" + act + ")", x.by(act), 0);
        }
        x.undo();
        CHECK.due("one was undone", x.harm(15), -1);
        CHECK.due("one was undone", x.by(15), -1);
        CHECK.due("the one ahead", x.harm(14), 7);
    }

    private static void by(String text, int due) {
        LockedLetter x = new LockedLetter();
        x.fold(2, true, true);
        Check.read(x, text);
        CHECK.due("by of " + text, x.by(0), due);
    }

    private static void byTheLeastNumber() {
        by("harm 5; cut 5; trick 5;", 0);
        by("trick 5; cut 5; harm 5;", 0);
        by("cut 5; trick 5; harm 5;", 0);
        by("cut 6; trick 5; harm 5;", 1);
        by("harm 6; trick 5; cut 5;", 1);
        by("peep 0; harm 6; cut 5; cut 4; trick 5;", 2);
        by("harm 5; cut 4; trick 6;", 1);
        by("harm 5; cut 6; trick 4;", 2);
        by("harm 1000; cut 1001;", 0);
        by("cut 0; harm 0-1;", 0);
        by("cut 1; harm 0-1;", 1);
        by("harm 9 if kind == 1; cut 9;", 1);
        by("peep 1;".repeat(15) + "trick 1000;", 15);
    }

    private static void byNone() {
        by("", -1);
        by("peep 1; opens 1; doubt 1;", -1);
        by("harm 1 if kind == 1; cut 1 if kind == 2; trick 1 if kind == 3;", -1);
    }

    private static void undoTellsHarm() {
        LockedLetter x = onePile("3*number+1");
        for (int act = 8; act >= 0; act--) {
            CHECK.due("undo", x.undo(), 3 * act + 1);
        }
        CHECK.due("undo of nothing", x.undo(), -1);
    }

    private static void harmOfAll() {
        LockedLetter x = new LockedLetter();
        Check.read(x, "harm 9999;");
        CHECK.due("no acts", x.count(5), 0);
        Letters.sixteenActs(x);
        CHECK.due("each is held, not their sum", x.count(5), 16000);
        x.undo();
        CHECK.due("one less", x.count(5), 15000);
    }

    // ---- what can be read

    private static void readAtTheEnds() {
        LockedLetter x = Check.of(4);
        CHECK.sights("alone, up", x, 1, 1, 1, 1);
        x.fold(1, false, true);
        CHECK.packet("two that lie down alone", x, "D", "C", "aB");
        CHECK.sights("alone, down: the lowest; up and lowest, down and highest: not", x, 0, 0, 1, 1);
        x.undo();
        x.fold(1, false, false);
        CHECK.packet("under", x, "D", "C", "Ba");
        CHECK.sights("up and highest, down and lowest", x, 1, 1, 1, 1);
        LockedLetter y = Check.of(3);
        y.fold(1, false, true);
        y.fold(1, true, true);
        CHECK.packet("three layers", y, "aBc");
        CHECK.sights("a middle one never", y, 0, 0, 1);
    }

    private static void readBeforePeeped() {
        LockedLetter x = Check.of(2);
        Check.read(x, "harm 9; peep 5;");
        CHECK.sights("read, not peeped at", x, 1, 1);
        CHECK.due("for nothing", x.ease(0), 0);
        x.fold(1, true, false);
        CHECK.sights("read, not peeped at", x, 1, 1);
        CHECK.due("for nothing", x.ease(1), 0);
        CHECK.due("nothing undone", x.undone(1), 0);
    }

    // ---- what can be peeped at

    private static void peepWithoutRule() {
        LockedLetter x = Check.of(2);
        x.fold(1, true, true);
        CHECK.sights("no rules", x, 0, 0);
        Check.read(x, "harm 1; cut 1; trick 1; opens 1; doubt 1;");
        CHECK.sights("no peep rule", x, 0, 0);
        Check.read(x, "peep 0 if kind != 6;");
        CHECK.sights("none that holds", x, 0, 0);
        Check.read(x, "peep 0 if number == 1;");
        CHECK.sights("one that holds for one part", x, 0, 2);
        Check.read(x, "peep 0;");
        CHECK.sights("one for all", x, 2, 2);
    }

    private static LockedLetter peeped(int parts) {
        LockedLetter x = Check.of(parts);
        Check.read(x, "peep 5;");
        return x;
    }

    private static void peepOnTheOuterSides() {
        LockedLetter one = peeped(2);
        one.fold(1, true, true);
        CHECK.sights("one column, shut on the left", one, 2, 2);
        one.undo();
        one.fold(1, false, true);
        CHECK.sights("one column, shut on the right", one, 2, 2);
        LockedLetter two = peeped(4);
        two.fold(2, true, true);
        CHECK.packet("two columns", two, "cB", "dA");
        CHECK.sights("the right side of column 0 is none, that of column 1 is open", two, 2, 0, 0, 2);
        two.undo();
        two.fold(2, false, true);
        CHECK.packet("two columns", two, "aD", "bC");
        CHECK.sights("the left side of column 0 is open, that of column 1 is none", two, 2, 0, 0, 2);
        LockedLetter three = peeped(6);
        three.fold(3, true, true);
        CHECK.packet("three columns", three, "dC", "eB", "fA");
        CHECK.sights("the middle one has no side", three, 2, 0, 0, 0, 0, 2);
    }

    private static void peepBetweenCreases() {
        LockedLetter x = peeped(3);
        x.fold(1, true, true);
        x.fold(1, false, true);
        CHECK.packet("b and a shut on the left, b to c on the right", x, "bAC");
        CHECK.sights("at the ends on the left, an end and between on the right; c looks at a", x, 0, 0, 2);
        LockedLetter y = peeped(3);
        y.fold(1, false, true);
        y.fold(1, true, true);
        CHECK.packet("a and b shut on the right, b and c on the left", y, "aBc");
        CHECK.sights("one of them at an end, the other beyond", y, 2, 2, 1);
        LockedLetter z = peeped(4);
        z.fold(2, true, true);
        z.tuck(1, false, 2);
        CHECK.packet("c to d around b and a on the right", z, "cBaD");
        CHECK.sights("a and d: within c and d, on the left nothing; b and c: shut on both", z, 2, 0, 0, 2);
    }

    private static void peepBetweenBoundLayers() {
        LockedLetter x = peeped(3);
        x.fold(1, false, true);
        x.fold(1, true, true);
        x.slit(0, 3);
        CHECK.sights("slits bind nothing", x, 2, 2, 1);
        x.lock(0, 2);
        CHECK.sights("a strip through b and c binds not both of a and b", x, 2, 2, 1);
        x.seal(0);
        CHECK.sights("nor does wax on b and c", x, 2, 2, 1);
        x.lock(0, 3);
        CHECK.sights("a strip through all three does", x, 0, 0, 1);
        x.undo();
        CHECK.sights("which is undone", x, 2, 2, 1);
        LockedLetter y = peeped(2);
        y.fold(1, true, true);
        y.seal(0);
        CHECK.sights("wax on both", y, 0, 0);
        y.soil();
        CHECK.sights("an act behind it", y, 0, 0);
        y.undo();
        y.undo();
        CHECK.sights("which is undone; the mark stays", y, 2, 2);
        CHECK.due("wax", y.part(0, 4), 1);
        LockedLetter w = peeped(4);
        w.fold(1, false, true);
        w.fold(2, true, true);
        w.seal(0);
        w.fold(1, false, true);
        CHECK.packet("c bound to b below it, d laid over", w, "aBcD");
        CHECK.sights("neither a and b nor c and d are bound to one another", w, 2, 2, 2, 2);
        LockedLetter z = peeped(4);
        z.fold(2, false, true);
        z.seal(0);
        z.fold(1, false, false);
        CHECK.packet("a and d bound, folded on", z, "cBaD");
        CHECK.sights("bound by an act ahead of the fold", z, 0, 0, 0, 0);
    }

    private static void peepVars() {
        LockedLetter x = Check.of(3);
        x.fold(1, false, true);
        x.fold(1, true, true);
        String[] vars = {"kind", "layers", "column", "number", "below"};
        int[][] due = {{6, 3, 0, 0, 0}, {6, 3, 0, 1, 1}};
        LockedLetter y = Check.of(8);
        y.fold(4, true, true);
        int[][] dueLast = {{6, 2, 3, 0, 1}, {6, 2, 3, 7, 0}};
        for (int var = 0; var < vars.length; var++) {
            Check.read(x, "harm 1000; peep " + vars[var] + ";");
            Check.read(y, "harm 1000; peep " + vars[var] + ";");
            for (int i = 0; i < 2; i++) {
                CHECK.due(vars[var] + " of a peep", x.ease(i), due[i][var]);
                CHECK.due(vars[var] + " of a peep in the last column", y.ease(7 * i), dueLast[i][var]);
            }
        }
    }

    private static void peepIsHeld() {
        LockedLetter x = Check.of(2);
        x.fold(1, true, true);
        x.soil();
        int[][] due = {{-1, 0}, {0, 0}, {1, 1}, {999, 999}, {1000, 1000}, {1001, 1000}};
        for (int[] one : due) {
            Check.read(x, "harm 1000; peep " + (one[0] < 0 ? "0-1" : String.valueOf(one[0])) + ";");
            CHECK.due("peep " + one[0], x.ease(0), one[1]);
            CHECK.due("nothing undone", x.undone(0), 0);
        }
        Check.read(x, "harm 1000; peep 3 if number == 1; peep 4; peep 2;");
        CHECK.due("the first that holds", x.ease(0), 4);
        CHECK.due("the first that holds", x.ease(1), 3);
    }

    // ---- promises 20 and 21

    private static void easeWithoutActs() {
        LockedLetter x = Check.of(8);
        Check.read(x, "harm 9; peep 9;");
        for (int p = 0; p < 8; p++) {
            CHECK.due("ease(" + p + ")", x.ease(p), 0);
            CHECK.due("undone(" + p + ")", x.undone(p), 0);
        }
    }

    private static void easeOfAllActs() {
        LockedLetter x = new LockedLetter();
        Letters.sixteenActs(x);
        for (int p = 0; p < 4; p++) {
            CHECK.due("for nothing", x.ease(p), 0);
            CHECK.due("all sixteen", x.undone(p), 16);
        }
        Check.read(x, "harm 9999;");
        for (int p = 0; p < 4; p++) {
            CHECK.due("the sum is not held", x.ease(p), 16000);
            CHECK.due("all sixteen", x.undone(p), 16);
        }
        Check.read(x, "harm 9999; peep 1000;");
        CHECK.due("a peep instead", x.ease(0), 1000);
        CHECK.due("none", x.undone(0), 0);
        CHECK.due("no peep at b", x.ease(1), 16000);
    }

    private static void easeOfTheFewest() {
        LockedLetter x = Check.of(2);
        x.fold(1, true, true);
        Check.read(x, "harm 5; peep 5;");
        CHECK.due("alike", x.ease(0), 5);
        CHECK.due("none rather than one", x.undone(0), 0);
        Check.read(x, "harm 5; peep 6;");
        CHECK.due("one less", x.ease(0), 5);
        CHECK.due("one", x.undone(0), 1);
        Check.read(x, "harm 5; peep 4;");
        CHECK.due("one less", x.ease(0), 4);
        CHECK.due("none", x.undone(0), 0);
        Check.read(x, "harm 0; peep 0;");
        CHECK.due("none for nothing", x.undone(0), 0);
        x.seal(0);
        CHECK.due("alike", x.ease(0), 0);
        CHECK.due("one rather than two", x.undone(0), 1);
        x.soil();
        CHECK.due("two rather than three", x.undone(0), 2);
    }

    /** A PART that can be read now and then, with and without a peep, as ACTS are undone. */
    private static void easeBehindEachAct() {
        LockedLetter x = Check.of(3);
        x.fold(1, false, true);
        x.fold(1, true, true);
        x.seal(0);
        CHECK.packet("c highest and up", x, "aBc");
        CHECK.due("c is read", x.undone(2), 0);
        CHECK.due("a: all three", x.undone(0), 3);
        CHECK.due("a: the seal's harm", x.ease(0), 10);
        Check.read(x, "harm 4 if kind == 4; harm 3 if number == 1; harm 7; peep 2 if layers == 2; peep 5;");
        // aBc sealed above: a peep at a for 5; unsealed 4 + 5; C aB: 4 + 3, shut on its one side; flat: 14.
        CHECK.due("a: a peep at once", x.ease(0), 5);
        CHECK.due("a: none", x.undone(0), 0);
        Check.read(x, "harm 4 if kind == 4; harm 3 if number == 1; harm 7; peep 2 if layers == 3 and number == 1;");
        CHECK.due("a: all", x.ease(0), 14);
        CHECK.due("a: three", x.undone(0), 3);
        CHECK.due("b: a peep", x.ease(1), 2);
        CHECK.due("b: none", x.undone(1), 0);
    }
}
