/** Promises 13 and 18 to 21, and what part(.., 5) tells: PRICES, HARM, sight and EASE. */
public final class PriceTest {
    private static final Check CHECK = new Check("PriceTest");

    public static void main(String[] args) {
        arithmetic();
        conditions();
        varsOfActs();
        usualHarm();
        leastOfThree();
        firstThatHolds();
        heldPrices();
        reading();
        peeping();
        peepsThatAreShut();
        peepsAtBothSides();
        varsOfPeeps();
        ease();
        easeBehindSomeActs();
        CHECK.end();
    }

    private static int worth(String text) {
        LockedLetter x = new LockedLetter();
        x.fold(2, true, true);
        CHECK.due("read of " + text, Check.read(x, text), 0);
        CHECK.due("harm is undo's: " + text, x.harm(0), x.undo());
        x.fold(2, true, true);
        return x.harm(0);
    }

    private static void arithmetic() {
        CHECK.due("sum before product", worth("harm 2+3*4;"), 14);
        CHECK.due("product before sum", worth("harm 2*3+4;"), 10);
        CHECK.due("parentheses", worth("harm (2+3)*4;"), 20);
        CHECK.due("from the left", worth("harm 10-3-2;"), 5);
        CHECK.due("to the right", worth("harm 10-(3-2);"), 9);
        CHECK.due("minus and plus", worth("harm 10-3+2;"), 9);
        CHECK.due("six deep", worth("harm 100-((((((1+2))))))*(4-2);"), 94);
        CHECK.due("leading zeros", worth("harm 0012;"), 12);
        CHECK.due("wraps below 0", worth("harm 1; cut 9999*9999*9999;"), 0);
        CHECK.due("wraps in a condition", worth("harm 7 if 9999*9999*9999 < 0;"), 7);
        CHECK.due("wraps above again", worth("harm 8 if 9999*9999*43 == 417*9999+3164+0;"), 8);
    }

    private static void conditions() {
        CHECK.due("and binds closer", worth("harm 1 if 1==1 or 1==2 and 1==2; harm 2;"), 1);
        CHECK.due("and binds closer on the left", worth("harm 1 if 1==2 and 1==2 or 1==1; harm 2;"), 1);
        CHECK.due("all of and", worth("harm 1 if 1==1 and 1==2; harm 2;"), 2);
        CHECK.due("none of or", worth("harm 1 if 1==3 or 1==2; harm 2;"), 2);
        String[] holds = {"1==1", "1!=2", "1<2", "1<=1", "1<=2", "1+1==2", "3-5<0", "2*3<=6"};
        for (String condition : holds) {
            CHECK.due(condition, worth("harm 1 if " + condition + "; harm 2;"), 1);
        }
        String[] fails = {"1==2", "1!=1", "2<1", "1<1", "2<=1", "0<0-1"};
        for (String condition : fails) {
            CHECK.due(condition, worth("harm 1 if " + condition + "; harm 2;"), 2);
        }
    }

    /** kind, layers, column, number and below of each ACT, told by one RULE each. */
    private static void varsOfActs() {
        LockedLetter x = new LockedLetter();
        x.sheet(6);
        x.fold(2, true, true);      // cB dA e f
        x.tuck(3, false, 3);        // cB dA eF
        x.fold(2, false, false);    // fE.. under: f at 1, columns: cB, f E under dA
        x.slit(1, 1);
        x.slit(1, 2);
        x.lock(1, 2);
        x.seal(0);
        x.soil();
        int[][] due = {
            {0, 2, 2, 0, 0}, {1, 1, 3, 1, 0}, {0, 2, 2, 2, 0}, {2, 1, 1, 3, 3}, {2, 2, 1, 4, 2}, {3, 2, 1, 5, 2},
            {4, 2, 0, 6, 0}, {5, 0, 0, 7, 0}};
        CHECK.due("layers(1)", x.layers(1), 4);
        String[] vars = {"kind", "layers", "column", "number", "below"};
        for (int var = 0; var < vars.length; var++) {
            Check.read(x, "harm " + vars[var] + ";");
            for (int act = 0; act < due.length; act++) {
                CHECK.due(vars[var] + " of act " + act, x.harm(act), due[act][var]);
                CHECK.due("by the one rule", x.by(act), 0);
            }
            CHECK.due("no such act", x.harm(due.length), -1);
            CHECK.due("by of no such act", x.by(due.length), -1);
        }
    }

    private static void usualHarm() {
        LockedLetter x = new LockedLetter();
        x.fold(2, true, true);
        x.slit(0, 2);
        x.lock(0, 2);
        x.seal(1);
        x.soil();
        x.tuck(1, true, 2);
        int[] due = {0, 0, 10, 10, 0, 0};
        for (int act = 0; act < due.length; act++) {
            CHECK.due("harm(" + act + ")", x.harm(act), due[act]);
            CHECK.due("by none", x.by(act), -1);
        }
        CHECK.due("all", x.count(5), 20);
        Check.read(x, "harm 3 if kind == 9; peep 4; opens 5; doubt 6;");
        CHECK.due("no rule holds", x.harm(2), 10);
        CHECK.due("other sorts tell no harm", x.harm(0), 0);
        CHECK.due("by none", x.by(2), -1);
        for (int act = due.length - 1; act >= 0; act--) {
            CHECK.due("undo", x.undo(), due[act]);
        }
    }

    private static void leastOfThree() {
        LockedLetter x = new LockedLetter();
        x.fold(2, true, true);
        Check.read(x, "harm 9; cut 7; trick 8;");
        CHECK.due("the cut", x.harm(0), 7);
        CHECK.due("by it", x.by(0), 1);
        Check.read(x, "trick 5; harm 9; cut 7;");
        CHECK.due("the trick", x.harm(0), 5);
        CHECK.due("by it", x.by(0), 0);
        Check.read(x, "trick 6; cut 6; harm 6;");
        CHECK.due("alike", x.harm(0), 6);
        CHECK.due("the least number", x.by(0), 0);
        Check.read(x, "cut 8; trick 6; harm 6;");
        CHECK.due("the least number of alike ones", x.by(0), 1);
        Check.read(x, "harm 6; peep 1; opens 1; doubt 1;");
        CHECK.due("others do not count", x.harm(0), 6);
    }

    private static void firstThatHolds() {
        LockedLetter x = new LockedLetter();
        x.fold(2, true, true);
        Check.read(x, "harm 1 if kind != 0; harm 9; harm 2; cut 12 if layers == 2; cut 3;");
        CHECK.due("the first of each sort alone", x.harm(0), 9);
        CHECK.due("by it", x.by(0), 1);
        x.soil();
        CHECK.due("another act, other rules", x.harm(1), 1);
        CHECK.due("by the first", x.by(1), 0);
        Check.read(x, "harm 9 if kind == 5; cut 3 if kind == 5 and number == 1;");
        CHECK.due("by the third rule", x.harm(1), 3);
        CHECK.due("none for the fold", x.by(0), -1);
    }

    private static void heldPrices() {
        CHECK.due("not below 0", worth("harm 1-5;"), 0);
        CHECK.due("not above 1000", worth("harm 9999;"), 1000);
        CHECK.due("1000 itself", worth("harm 1000;"), 1000);
        CHECK.due("1001", worth("harm 1001;"), 1000);
        LockedLetter x = new LockedLetter();
        x.fold(2, true, true);
        Check.read(x, "harm 2000; cut 1500;");
        CHECK.due("alike when held", x.by(0), 0);
        Check.read(x, "harm 0; cut 1-2;");
        CHECK.due("alike when held to 0", x.by(0), 0);
    }

    private static void reading() {
        LockedLetter x = new LockedLetter();
        CHECK.sights("flat", x, 1, 1, 1, 1);
        x.fold(2, true, true);
        CHECK.sights("shut: cB dA", x, 0, 0, 0, 0);
        x.undo();
        x.fold(2, true, false);
        CHECK.sights("texts outside: Bc Ad", x, 1, 1, 1, 1);
        x.undo();
        x.fold(1, true, true);
        CHECK.sights("bA c d", x, 0, 0, 1, 1);
        x.undo();
        x.fold(1, false, true);
        CHECK.sights("D C aB", x, 0, 0, 1, 1);
    }

    private static void peeping() {
        LockedLetter x = new LockedLetter();
        x.sheet(2);
        x.fold(1, true, true);
        CHECK.sights("bA without a rule", x, 0, 0);
        Check.read(x, "peep 3;");
        CHECK.sights("bA gapes on the right", x, 2, 2);
        CHECK.due("ease by peeping or undoing", x.ease(0), 0);
        CHECK.due("undone", x.undone(0), 1);
        Check.read(x, "peep 3 if number == 1;");
        CHECK.sights("a rule for one part", x, 0, 2);
        Check.read(x, "peep 3;");
        x.undo();
        x.fold(1, false, true);
        CHECK.sights("aB gapes on the left", x, 2, 2);
        x.undo();
        x.fold(1, true, false);
        CHECK.sights("texts outside", x, 1, 1);
    }

    private static void peepsThatAreShut() {
        LockedLetter x = new LockedLetter();
        x.sheet(2);
        Check.read(x, "peep 3;");
        x.fold(1, true, true);
        x.slit(0, 2);
        CHECK.sights("slits bind nothing", x, 2, 2);
        x.lock(0, 2);
        CHECK.sights("a strip binds both", x, 0, 0);
        x.undo();
        CHECK.sights("the strip is undone", x, 2, 2);
        x.seal(0);
        CHECK.sights("wax binds both", x, 0, 0);
        x.undo();
        CHECK.sights("the wax is undone, its mark stays", x, 2, 2);
        LockedLetter y = new LockedLetter();
        y.sheet(3);
        Check.read(y, "peep 3;");
        y.fold(1, true, true);
        y.fold(1, false, true);
        // bAC: on the left a and b hang together, on the right b and c, with a between; c looks at a.
        CHECK.sights("bAC", y, 0, 0, 2);
        y.undo();
        y.tuck(1, false, 1);
        // bCA: b looks at c: on the left within a and b, on the right at the ends of b and c; a looks at c.
        CHECK.sights("bCA", y, 2, 0, 0);
        y.seal(0);
        CHECK.sights("bCA sealed above", y, 0, 0, 0);
    }

    private static void peepsAtBothSides() {
        LockedLetter x = new LockedLetter();
        Check.read(x, "peep 5;");
        x.fold(2, true, true);
        // cB dA: the crease of b and c is on the left of column 0; d and a gape on the right.
        CHECK.sights("cB dA", x, 2, 0, 0, 2);
        x.undo();
        x.fold(2, false, true);
        // aD bC
        CHECK.sights("aD bC", x, 2, 0, 0, 2);
        LockedLetter y = new LockedLetter();
        y.sheet(6);
        Check.read(y, "peep 5;");
        y.fold(3, true, true);
        // dC eB fA: the middle column has no open side.
        CHECK.sights("dC eB fA", y, 2, 0, 0, 0, 0, 2);
    }

    private static void varsOfPeeps() {
        LockedLetter x = new LockedLetter();
        x.sheet(3);
        x.fold(1, false, true);
        x.fold(1, false, false);
        // C aB, then aB turned below C: bAC.
        CHECK.due("at(0, 0)", x.at(0, 0), 1);
        x.undo();
        x.undo();
        x.fold(2, false, true);
        x.slit(0, 1);
        x.seal(0);
        // a bC: b and c gape on the left, but column 1 is not column 0; on the right is their crease.
        Check.read(x, "peep 1;");
        CHECK.sights("a bC", x, 1, 0, 0);
        x.sheet(3);
        x.fold(2, true, true);
        // cB A
        CHECK.sights("cB A", x, 1, 0, 0);
        x.sheet(4);
        x.fold(2, true, true);
        x.soil();
        String[] vars = {"kind", "layers", "column", "number", "below"};
        int[][] due = {{6, 6}, {2, 2}, {1, 1}, {0, 3}, {1, 0}};
        for (int var = 0; var < vars.length; var++) {
            Check.read(x, "harm 1000; peep " + vars[var] + ";");
            CHECK.due("peep at a by " + vars[var], x.ease(0), due[var][0]);
            CHECK.due("peep at d by " + vars[var], x.ease(3), due[var][1]);
        }
        Check.read(x, "harm 1000; peep 1-2;");
        CHECK.due("held to 0", x.ease(0), 0);
        Check.read(x, "harm 900; peep 2000;");
        CHECK.due("held to 1000", x.ease(0), 1000);
        CHECK.due("with nothing undone", x.undone(0), 0);
    }

    private static void ease() {
        LockedLetter x = new LockedLetter();
        x.sheet(2);
        x.fold(1, true, true);
        Check.read(x, "harm 5; peep 3;");
        CHECK.due("peep is less", x.ease(1), 3);
        CHECK.due("none undone", x.undone(1), 0);
        Check.read(x, "harm 2; peep 3;");
        CHECK.due("undoing is less", x.ease(1), 2);
        CHECK.due("one undone", x.undone(1), 1);
        Check.read(x, "harm 3; peep 3;");
        CHECK.due("alike", x.ease(1), 3);
        CHECK.due("the fewest", x.undone(1), 0);
        Check.read(x, "harm 3; peep 3 if number == 0;");
        CHECK.due("no peep at this one", x.undone(1), 1);
        CHECK.due("ease(2)", x.ease(2), -1);
        CHECK.due("ease(-1)", x.ease(-1), -1);
        CHECK.due("undone(2)", x.undone(2), -1);
        CHECK.due("undone(-1)", x.undone(-1), -1);
    }

    private static void easeBehindSomeActs() {
        LockedLetter x = new LockedLetter();
        x.sheet(2);
        x.fold(1, true, true);
        x.slit(0, 2);
        x.lock(0, 2);
        x.seal(0);
        CHECK.due("both must be undone", x.ease(0), 20);
        CHECK.due("all four", x.undone(0), 4);
        Check.read(x, "harm 50 if kind == 0; harm 7 if kind == 3; harm 4 if kind == 4; harm 1; peep 30;");
        CHECK.due("seal and lock, then a peep", x.ease(0), 41);
        CHECK.due("two", x.undone(0), 2);
        Check.read(x, "harm 20 if kind == 0; harm 7 if kind == 3; harm 4 if kind == 4; harm 1; peep 30;");
        CHECK.due("all and no peep", x.ease(0), 32);
        CHECK.due("four", x.undone(0), 4);
        CHECK.due("harm of all", x.count(5), 32);
        x.soil();
        Check.read(x, "harm 0; peep 0;");
        CHECK.due("for nothing", x.ease(1), 0);
        CHECK.due("soil, seal and lock", x.undone(1), 3);
    }
}
