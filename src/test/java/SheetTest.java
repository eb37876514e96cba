/** Promises 6 to 17 and 34: the SHEET, its ACTS, its MARKS, and counts. */
public final class SheetTest {
    private static final Check CHECK = new Check("SheetTest");

    public static void main(String[] args) {
        sheets();
        folds();
        foldsBeyondTheEdge();
        marksOfFolds();
        tucks();
        tucksThatCannotBe();
        slits();
        locks();
        seals();
        soils();
        undoing();
        sixteenActs();
        wrongInputs();
        counts();
        CHECK.end();
    }

    private static void sheets() {
        LockedLetter x = new LockedLetter();
        for (int parts : new int[] {Integer.MIN_VALUE, -1, 0, 1, 9, Integer.MAX_VALUE}) {
            x.fold(1, true, true);
            CHECK.due("sheet(" + parts + ")", x.sheet(parts), false);
            CHECK.due("nothing happens", x.count(0), 4);
            CHECK.due("the act stays", x.count(2), 1);
            x.undo();
        }
        for (int parts = 2; parts <= 8; parts++) {
            CHECK.due("sheet(" + parts + ")", x.sheet(parts), true);
            CHECK.packet("flat", x, "abcdefgh".substring(0, parts).split(""));
            CHECK.due("count(0)", x.count(0), parts);
        }
        x.hand(3);
        x.look(1, 1);
        x.fold(4, true, true);
        x.slit(0, 2);
        x.seal(0);
        x.soil();
        x.finds();
        CHECK.due("sheet(8) anew", x.sheet(8), true);
        CHECK.marks("new sheet", x, 0, 0, 0, 0, 0, 0, 0);
        for (int p = 0; p < 8; p++) {
            CHECK.due("no slits", x.part(p, 3), 0);
            CHECK.due("no wax", x.part(p, 4), 0);
            CHECK.due("no dirt", x.part(p, 6) + x.part(p, 7), 0);
        }
        CHECK.due("no acts", x.count(2), 0);
        CHECK.due("no finds", x.rows(), 238050);
        CHECK.due("hands stay", x.count(6), 1);
        CHECK.due("looks stay", x.count(8), 1);
    }

    private static void folds() {
        LockedLetter x = Check.of(4);
        CHECK.due("left over", x.fold(2, true, true), 0);
        CHECK.packet("left over", x, "cB", "dA");
        x.undo();
        CHECK.due("left under", x.fold(2, true, false), 0);
        CHECK.packet("left under", x, "Bc", "Ad");
        x.undo();
        CHECK.due("right over", x.fold(2, false, true), 0);
        CHECK.packet("right over", x, "aD", "bC");
        x.undo();
        CHECK.due("right under", x.fold(2, false, false), 0);
        CHECK.packet("right under", x, "Da", "Cb");
        CHECK.due("a pile is turned upside down", x.fold(1, true, true), 1);
        CHECK.packet("piles", x, "CbAd");
        CHECK.due("one column has no line", x.fold(1, true, true), -1);
    }

    private static void foldsBeyondTheEdge() {
        LockedLetter x = Check.of(4);
        x.fold(1, false, true);
        CHECK.packet("right over, beyond", x, "D", "C", "aB");
        x.undo();
        x.fold(3, true, false);
        CHECK.packet("left under, beyond", x, "Cd", "B", "A");
        x.undo();
        x.fold(1, true, true);
        CHECK.packet("left over, within", x, "bA", "c", "d");
        x.undo();
        x.fold(3, false, false);
        CHECK.packet("right under, within", x, "a", "b", "Dc");
    }

    private static void marksOfFolds() {
        LockedLetter x = Check.of(4);
        x.fold(2, true, true);
        CHECK.marks("up laid over", x, 0, 1, 0);
        x.fold(1, true, true);
        CHECK.packet("second", x, "dAbC");
        CHECK.marks("down laid over, up laid over", x, 2, 1, 1);
        x.undo();
        x.fold(1, false, false);
        CHECK.marks("down laid under: up; up laid under: down", x, 3, 1, 3);
        x.undo();
        x.undo();
        CHECK.marks("marks stay", x, 3, 1, 3);
        x.fold(2, false, false);
        CHECK.marks("both", x, 3, 3, 3);
    }

    private static void tucks() {
        LockedLetter x = Check.of(3);
        x.fold(2, false, true);
        CHECK.packet("ready", x, "a", "bC");
        CHECK.due("tuck between", x.tuck(1, true, 1), 1);
        CHECK.packet("between", x, "bAC");
        CHECK.marks("level 1 is as over", x, 1, 1);
        x.undo();
        CHECK.due("tuck below all", x.tuck(1, true, 0), 1);
        CHECK.packet("below all", x, "AbC");
        CHECK.marks("level 0 is as under", x, 3, 1);
        x.undo();
        CHECK.due("tuck above all", x.tuck(1, true, 2), 1);
        CHECK.packet("above all", x, "bCA");
        x.undo();
        CHECK.due("tuck at level 8", x.tuck(1, true, 8), 1);
        CHECK.packet("fewer layers: all stay below", x, "bCA");
        x.undo();
        CHECK.due("tuck at level 9", x.tuck(1, true, 9), -1);
        CHECK.due("tuck at level -1", x.tuck(1, true, -1), -1);
        CHECK.due("no acts by these", x.count(2), 1);
        CHECK.due("tuck at line 0", x.tuck(0, true, 1), -1);
        CHECK.due("tuck at line 2", x.tuck(2, true, 1), -1);
        LockedLetter y = Check.of(5);
        y.fold(4, false, true);
        CHECK.packet("one pile of two", y, "a", "b", "c", "dE");
        CHECK.due("over a low pile, into a high one", y.tuck(2, true, 1), 1);
        CHECK.packet("each pile at its own level", y, "cB", "dAE");
    }

    private static void tucksThatCannotBe() {
        LockedLetter x = Check.of(4);
        x.fold(2, true, true);
        CHECK.due("two creases cross", x.tuck(1, false, 1), -2);
        CHECK.packet("nothing happens", x, "cB", "dA");
        CHECK.marks("no marks", x, 0, 1, 0);
        CHECK.due("no act", x.count(2), 1);
        CHECK.due("above both", x.tuck(1, false, 2), 1);
        LockedLetter y = Check.of(4);
        y.fold(1, true, true);
        CHECK.packet("shut on the left", y, "bA", "c", "d");
        CHECK.due("a flat part through a crease", y.tuck(1, false, 1), -2);
        CHECK.due("above it", y.tuck(1, false, 2), 1);
        CHECK.packet("above it", y, "D", "bAC");
        LockedLetter w = Check.of(3);
        w.fold(1, true, true);
        CHECK.due("nothing goes on beyond the crease", w.tuck(1, false, 1), 1);
        CHECK.packet("laid in", w, "bCA");
        LockedLetter z = Check.of(5);
        z.fold(4, false, false);
        CHECK.packet("ready", z, "a", "b", "c", "Ed");
        CHECK.due("one order here, the other there", z.tuck(2, true, 1), -2);
        CHECK.due("below both", z.tuck(2, true, 0), 1);
        CHECK.packet("below both", z, "Bc", "AEd");
        z.undo();
        CHECK.due("above both", z.tuck(2, true, 2), 1);
        CHECK.packet("above both", z, "cB", "EdA");
    }

    private static void slits() {
        LockedLetter x = Check.of(4);
        CHECK.due("slit a flat part", x.slit(3, 1), 0);
        CHECK.due("its slit", x.part(3, 3), 1);
        CHECK.due("too many", x.slit(3, 2), -1);
        x.fold(2, true, true);
        CHECK.due("slit two", x.slit(1, 2), 2);
        CHECK.due("one more", x.part(3, 3), 2);
        CHECK.due("the other one", x.part(0, 3), 1);
        CHECK.due("not slit", x.part(1, 3) + x.part(2, 3), 0);
        CHECK.due("the highest alone", x.slit(0, 1), 3);
        CHECK.due("the highest", x.part(1, 3), 1);
        CHECK.due("not the lowest", x.part(2, 3), 0);
        CHECK.due("no layers", x.slit(0, 0), -1);
        CHECK.due("below none", x.slit(0, -1), -1);
        CHECK.due("three of two", x.slit(0, 3), -1);
        CHECK.due("no such column", x.slit(2, 1), -1);
        CHECK.due("no column below 0", x.slit(-1, 1), -1);
        CHECK.due("acts", x.count(2), 4);
        CHECK.packet("slits move nothing", x, "cB", "dA");
    }

    private static void locks() {
        LockedLetter x = Check.of(4);
        CHECK.due("lock one layer", x.lock(0, 1), -1);
        CHECK.due("lock two of one", x.lock(0, 2), -1);
        x.fold(2, true, true);
        CHECK.due("no slits", x.lock(0, 2), -2);
        x.slit(0, 1);
        CHECK.due("one has no slit", x.lock(0, 2), -2);
        x.slit(0, 2);
        CHECK.due("locked", x.lock(0, 2), 3);
        CHECK.due("k 1", x.lock(0, 1), -1);
        CHECK.due("k 3", x.lock(0, 3), -1);
        CHECK.due("no such column", x.lock(2, 2), -1);
        CHECK.due("no column below 0", x.lock(-1, 2), -1);
        x.undo();
        x.undo();
        CHECK.due("slits stay, so that it can be locked", x.lock(0, 2), 2);
        CHECK.packet("locks move nothing", x, "cB", "dA");
    }

    private static void seals() {
        LockedLetter x = Check.of(4);
        CHECK.due("one layer", x.seal(0), -1);
        x.fold(2, true, true);
        x.fold(1, true, true);
        CHECK.packet("four", x, "dAbC");
        CHECK.due("sealed", x.seal(0), 2);
        CHECK.due("sealed again", x.seal(0), 3);
        CHECK.due("wax of the highest", x.part(2, 4), 2);
        CHECK.due("wax of the next", x.part(1, 4), 2);
        CHECK.due("no wax below", x.part(0, 4) + x.part(3, 4), 0);
        CHECK.due("no such column", x.seal(1), -1);
        CHECK.due("no column below 0", x.seal(-1), -1);
        x.undo();
        CHECK.due("wax stays", x.part(2, 4), 2);
    }

    private static void soils() {
        LockedLetter x = Check.of(3);
        x.fold(2, true, false);
        CHECK.packet("ready", x, "Bc", "A");
        CHECK.due("soil", x.soil(), 1);
        CHECK.dirt("outer faces", x, 1, 1, 1, 0, 1, 0);
        CHECK.due("soil again", x.soil(), 2);
        CHECK.dirt("dirt is there or not", x, 1, 1, 1, 0, 1, 0);
        x.undo();
        x.undo();
        x.undo();
        CHECK.dirt("dirt stays", x, 1, 1, 1, 0, 1, 0);
        LockedLetter y = Check.of(3);
        y.fold(1, true, true);
        y.fold(1, false, true);
        CHECK.packet("three", y, "bAC");
        y.soil();
        CHECK.dirt("highest down, lowest up", y, 0, 0, 0, 1, 0, 1);
        LockedLetter z = Check.of(2);
        z.soil();
        CHECK.dirt("flat", z, 1, 1, 1, 1);
    }

    private static void undoing() {
        LockedLetter x = Check.of(4);
        x.fold(2, true, true);
        x.slit(0, 2);
        x.lock(0, 2);
        x.tuck(1, false, 2);
        CHECK.packet("tucked", x, "cBaD");
        CHECK.due("undo the tuck", x.undo(), 0);
        CHECK.packet("as ahead of it", x, "cB", "dA");
        CHECK.marks("marks stay", x, 2, 1, 1);
        CHECK.due("undo the lock", x.undo(), 10);
        CHECK.due("undo the slit", x.undo(), 0);
        CHECK.due("slits stay", x.part(1, 3), 1);
        CHECK.due("undo the fold", x.undo(), 0);
        CHECK.packet("flat", x, "a", "b", "c", "d");
        CHECK.due("nothing to undo", x.undo(), -1);
        CHECK.due("another act has the number", x.soil(), 0);
    }

    private static void sixteenActs() {
        LockedLetter x = Check.of(4);
        x.fold(2, true, true);
        x.slit(0, 2);
        for (int i = 2; i < 16; i++) {
            CHECK.due("act " + i, i % 2 == 0 ? x.soil() : x.slit(1, 1), i);
        }
        CHECK.due("17th fold", x.fold(1, true, true), -1);
        CHECK.due("17th tuck", x.tuck(1, true, 2), -1);
        CHECK.due("17th tuck that can't be", x.tuck(1, false, 1), -1);
        CHECK.due("17th slit", x.slit(0, 1), -1);
        CHECK.due("17th lock", x.lock(0, 2), -1);
        CHECK.due("17th lock without slits", x.lock(1, 2), -1);
        CHECK.due("17th seal", x.seal(0), -1);
        CHECK.due("17th soil", x.soil(), -1);
        CHECK.due("slits as before", x.part(0, 3), 7);
        CHECK.due("no wax", x.part(1, 4), 0);
        CHECK.due("acts", x.count(2), 16);
        CHECK.due("harm of the last", x.harm(15), 0);
        x.undo();
        CHECK.due("room again", x.seal(0), 15);
    }

    private static void wrongInputs() {
        LockedLetter x = Check.of(5);
        int[] odd = {Integer.MIN_VALUE, -2, -1, 5, 6, 100, Integer.MAX_VALUE};
        for (int i : odd) {
            CHECK.due("fold(" + i + ")", x.fold(i, true, true), -1);
            CHECK.due("tuck(" + i + ")", x.tuck(i, true, 1), -1);
            CHECK.due("slit(" + i + ", 1)", x.slit(i, 1), -1);
            CHECK.due("lock(" + i + ", 2)", x.lock(i, 2), -1);
            CHECK.due("seal(" + i + ")", x.seal(i), -1);
            CHECK.due("mark(" + i + ")", x.mark(i), -1);
            CHECK.due("layers(" + i + ")", x.layers(i), -1);
            CHECK.due("at(" + i + ", 0)", x.at(i, 0), -1);
            CHECK.due("at(0, " + i + ")", x.at(0, i), -1);
            CHECK.due("part(" + i + ", 0)", x.part(i, 0), -1);
            CHECK.due("harm(" + i + ")", x.harm(i), -1);
            CHECK.due("by(" + i + ")", x.by(i), -1);
            CHECK.due("ease(" + i + ")", x.ease(i), -1);
            CHECK.due("undone(" + i + ")", x.undone(i), -1);
            CHECK.due("slit(0, " + i + ")", x.slit(0, i), -1);
            CHECK.due("lock(0, " + i + ")", x.lock(0, i), -1);
        }
        CHECK.due("mark(4)", x.mark(4), -1);
        CHECK.due("mark(3)", x.mark(3), 0);
        for (int what : new int[] {Integer.MIN_VALUE, -1, 8, 9, Integer.MAX_VALUE}) {
            CHECK.due("part(0, " + what + ")", x.part(0, what), -1);
        }
        CHECK.due("no acts by these", x.count(2), 0);
    }

    private static void counts() {
        LockedLetter x = Check.of(6);
        x.fold(2, true, true);
        x.slit(0, 2);
        x.lock(0, 2);
        x.seal(1);
        Check.read(x, "harm 4 if kind == 0;");
        Check.feed(x, "cut");
        x.hand(3);
        x.hand(4);
        x.look(6, 2);
        int[] due = {6, 4, 4, 1, 3, 24, 2, 7, 1};
        for (int what = 0; what < due.length; what++) {
            CHECK.due("count(" + what + ")", x.count(what), due[what]);
        }
        for (int what : new int[] {Integer.MIN_VALUE, -1, 9, Integer.MAX_VALUE}) {
            CHECK.due("count(" + what + ")", x.count(what), -1);
        }
        CHECK.due("a text of twice cut", Check.read(x, "cut;"), 1);
        CHECK.due("harm of all as before", x.count(5), 24);
    }
}
