import java.util.function.ToLongFunction;

/** The edges that the document names in promises 6 to 17 and in sections I and II, a method for each sentence. */
public final class SheetEdgesTest {
    private static final Check CHECK = new Check("SheetEdgesTest");
    private static final int LEAST = Integer.MIN_VALUE;
    private static final int MOST = Integer.MAX_VALUE;
    private static final String LETTERS = "abcdefgh";

    public static void main(String[] args) {
        sheetsFromTwoToEight();
        sheetsThatAreRefused();
        sheetWithoutMarksActsFinds();
        sheetLeavesOtherThings();
        foldsFromTheFirstLineToTheLast();
        linesAreThoseOfThePacket();
        foldsThatAreRefused();
        noLineInOneColumn();
        leastColumnIsZero();
        pilesOfUnlikeHeight();
        creaseUpAndDown();
        creaseBoth();
        creasesOfAllLayers();
        tuckLevelsFromZeroToEight();
        tucksThatAreRefused();
        tuckWhereFewerLayersAre();
        tuckWhereNoLayerIs();
        marksOfTucks();
        creasesThatCross();
        creasesWithinOneAnother();
        flatPartAtACrease();
        flatPartsInOneOrder();
        tuckThatCannotBeChangesNothing();
        slitsFromOneLayerToAll();
        slitsThatAreRefused();
        slitsAreCounted();
        locksFromTwoLayersToAll();
        locksThatAreRefused();
        locksWithoutSlits();
        sealsOfTheTwoHighest();
        sealsThatAreRefused();
        soilOfOneLayerAndMore();
        dirtIsThereOrNot();
        sixteenActsAndNoMore();
        undoMakesRoom();
        undoOfNothing();
        undoToTheFlatSheet();
        marksStay();
        numbersOfParts();
        whatOfParts();
        numbersOfMarks();
        numbersOfColumns();
        numbersOfLayers();
        CHECK.end();
    }

    private static String[] flat(int parts) {
        return LETTERS.substring(0, parts).split("");
    }

    // ---- promise 6

    private static void sheetsFromTwoToEight() {
        for (int parts = 2; parts <= 8; parts++) {
            LockedLetter x = new LockedLetter();
            CHECK.due("sheet(" + parts + ")", x.sheet(parts), true);
            CHECK.due("count(0)", x.count(0), parts);
            CHECK.packet("flat", x, flat(parts));
        }
    }

    private static void sheetsThatAreRefused() {
        for (int parts : new int[] {LEAST, -4, -1, 0, 1, 9, 10, 16, MOST}) {
            CHECK.refused("sheet(" + parts + ")", Letters::some, x -> x.sheet(parts) ? 1 : 0, 0);
        }
    }

    private static void sheetWithoutMarksActsFinds() {
        for (int parts = 2; parts <= 8; parts++) {
            LockedLetter x = new LockedLetter();
            x.sheet(8);
            x.fold(4, true, true);
            x.fold(2, false, false);
            x.fold(1, true, true);
            x.slit(0, 8);
            x.lock(0, 8);
            x.seal(0);
            x.soil();
            x.finds();
            x.sheet(parts);
            CHECK.alike("a new sheet of " + parts, Answers.of(x), Answers.of(Check.of(parts)));
        }
    }

    private static void sheetLeavesOtherThings() {
        LockedLetter x = new LockedLetter();
        Letters.some(x);
        x.sheet(8);
        CHECK.due("rules stay", x.count(3), 6);
        CHECK.due("the tape stays", x.count(4), Letters.TAPE.length());
        CHECK.due("hands stay", x.count(6), 2);
        CHECK.due("days stay", x.count(7), 5);
        CHECK.due("looks stay", x.count(8), 3);
        CHECK.due("tales stay", x.tale(3), 10);
    }

    // ---- promise 7

    private static void foldsFromTheFirstLineToTheLast() {
        for (int parts = 2; parts <= 8; parts++) {
            for (int i = 0; i < 4; i++) {
                boolean left = i < 2;
                boolean over = i % 2 == 0;
                for (int line = 1; line < parts; line++) {
                    LockedLetter x = Check.of(parts);
                    CHECK.due("fold at " + line + " of " + parts, x.fold(line, left, over), 0);
                    CHECK.due("columns", x.count(1), Math.max(line, parts - line));
                    CHECK.due("a mark there", x.mark(line - 1), over ? 1 : 2);
                }
                LockedLetter x = Check.of(parts);
                CHECK.due("fold at 0 of " + parts, x.fold(0, left, over), -1);
                CHECK.due("fold at " + parts, x.fold(parts, left, over), -1);
                CHECK.due("no act", x.count(2), 0);
            }
        }
    }

    private static void linesAreThoseOfThePacket() {
        LockedLetter x = Check.of(8);
        x.fold(2, true, true);
        CHECK.due("six columns", x.count(1), 6);
        CHECK.due("line 6", x.fold(6, true, true), -1);
        CHECK.due("line 5", x.fold(5, true, true), 1);
        x.undo();
        x.undo();
        CHECK.due("line 7 again", x.fold(7, true, true), 0);
        CHECK.due("seven columns", x.count(1), 7);
    }

    private static void foldsThatAreRefused() {
        for (int line : new int[] {LEAST, -3, -1, 0, 3, 4, 5, MOST, MOST / 2 + 1}) {
            CHECK.refused("fold(" + line + ", left, over)", Letters::some, x -> x.fold(line, true, true), -1);
            CHECK.refused("fold(" + line + ", right, under)", Letters::some, x -> x.fold(line, false, false), -1);
        }
    }

    private static void noLineInOneColumn() {
        for (int line = 0; line <= 2; line++) {
            int at = line;
            CHECK.refused("fold(" + line + ") of one column", SheetEdgesTest::eightLayers, x -> x.fold(at, true, true), -1);
            CHECK.refused("tuck(" + line + ") of one column", SheetEdgesTest::eightLayers, x -> x.tuck(at, false, 1), -1);
        }
    }

    /** One COLUMN of all eight PARTS. */
    private static void eightLayers(LockedLetter x) {
        x.sheet(8);
        x.fold(4, true, true);
        x.fold(2, true, true);
        x.fold(1, true, true);
    }

    private static void leastColumnIsZero() {
        LockedLetter x = Check.of(8);
        x.fold(7, true, true);
        CHECK.packet("left beyond the right end", x, "hG", "F", "E", "D", "C", "B", "A");
        x.undo();
        x.fold(1, false, false);
        CHECK.packet("right beyond the left end", x, "H", "G", "F", "E", "D", "C", "Ba");
        x.undo();
        x.fold(4, false, true);
        CHECK.packet("right to the left end", x, "aH", "bG", "cF", "dE");
        x.undo();
        x.fold(4, true, false);
        CHECK.packet("left to the right end", x, "De", "Cf", "Bg", "Ah");
        x.undo();
        x.fold(5, false, true);
        CHECK.packet("right, not to the left end", x, "a", "b", "cH", "dG", "eF");
        x.undo();
        x.fold(3, false, true);
        CHECK.packet("right, one beyond", x, "H", "G", "aF", "bE", "cD");
        x.undo();
        x.fold(5, true, true);
        CHECK.packet("left, beyond", x, "fE", "gD", "hC", "B", "A");
        x.undo();
        x.fold(3, true, true);
        CHECK.packet("left, not to the right end", x, "dC", "eB", "fA", "g", "h");
    }

    private static void pilesOfUnlikeHeight() {
        LockedLetter x = Check.of(5);
        x.fold(1, true, true);
        x.fold(1, true, false);
        CHECK.packet("the pile turned and laid under", x, "aBc", "d", "e");
        x.fold(1, false, true);
        CHECK.packet("a low pile over a high one", x, "E", "aBcD");
        x.undo();
        x.fold(2, true, true);
        CHECK.packet("a high pile alone", x, "eD", "CbA");
    }

    // ---- the MARKS of FOLDS

    private static void creaseUpAndDown() {
        for (int i = 0; i < 8; i++) {
            boolean left = i % 2 == 0;
            boolean over = i / 2 % 2 == 0;
            boolean isUp = i < 4;
            LockedLetter x = Check.of(4);
            if (!isUp) {
                // Turns c and d: d, c over b, a alone; the line of c and d is then 1.
                x.fold(2, false, true);
            }
            x.fold(isUp ? 3 : 1, left, over);
            CHECK.due("lower one " + (isUp ? "up" : "down") + (over ? " over" : " under"), x.mark(2), isUp == over ? 1 : 2);
        }
    }

    private static void creaseBoth() {
        LockedLetter x = Check.of(2);
        x.fold(1, true, true);
        x.undo();
        CHECK.marks("up", x, 1);
        x.fold(1, false, true);
        x.undo();
        CHECK.marks("up once more is up", x, 1);
        x.fold(1, true, false);
        CHECK.marks("up and down are both", x, 3);
        x.undo();
        x.fold(1, true, true);
        CHECK.marks("both stays", x, 3);
        LockedLetter y = Check.of(2);
        y.fold(1, true, false);
        y.undo();
        y.fold(1, true, false);
        CHECK.marks("down once more is down", y, 2);
    }

    private static void creasesOfAllLayers() {
        LockedLetter x = new LockedLetter();
        eightLayers(x);
        CHECK.packet("eight layers", x, "hAdEfCbG");
        CHECK.marks("one crease, two, and four", x, 2, 2, 1, 1, 2, 1, 1);
    }

    // ---- promise 8

    private static LockedLetter threeLayersAndOne() {
        LockedLetter x = Check.of(4);
        x.fold(3, false, true);
        x.fold(2, false, true);
        return x;
    }

    private static void tuckLevelsFromZeroToEight() {
        CHECK.packet("three layers on the right", threeLayersAndOne(), "a", "bdC");
        String[] due = {"AbdC", "bAdC", "", "bdCA", "bdCA", "bdCA", "bdCA", "bdCA", "bdCA"};
        for (int level = 0; level <= 8; level++) {
            LockedLetter x = threeLayersAndOne();
            // Between d and c, that hang together on the left, a would come through to b, below both.
            CHECK.due("tuck at level " + level, x.tuck(1, true, level), level == 2 ? -2 : 2);
            if (level != 2) {
                CHECK.packet("level " + level, x, due[level]);
            }
        }
    }

    private static void tucksThatAreRefused() {
        for (int line : new int[] {LEAST, -1, 0, 3, 4, 5, MOST}) {
            CHECK.refused("tuck(" + line + ", left, 1)", Letters::some, x -> x.tuck(line, true, 1), -1);
            CHECK.refused("tuck(" + line + ", right, 0)", Letters::some, x -> x.tuck(line, false, 0), -1);
        }
        for (int level : new int[] {LEAST, -2, -1, 9, 10, MOST}) {
            CHECK.refused("tuck(1, left, " + level + ")", Letters::some, x -> x.tuck(1, true, level), -1);
            CHECK.refused("tuck(2, right, " + level + ")", Letters::some, x -> x.tuck(2, false, level), -1);
        }
    }

    private static void tuckWhereFewerLayersAre() {
        LockedLetter x = Check.of(5);
        x.fold(4, false, true);
        CHECK.packet("one layer and two", x, "a", "b", "c", "dE");
        CHECK.due("as many as the high pile has less one", x.tuck(2, true, 1), 1);
        CHECK.packet("above all of the low pile", x, "cB", "dAE");
        x.undo();
        CHECK.due("as many as the high pile has", x.tuck(2, true, 2), 1);
        CHECK.packet("above all of both", x, "cB", "dEA");
        x.undo();
        CHECK.due("more than any has", x.tuck(2, true, 8), 1);
        CHECK.packet("above all of both", x, "cB", "dEA");
    }

    private static void tuckWhereNoLayerIs() {
        for (int level = 0; level <= 8; level++) {
            LockedLetter x = Check.of(3);
            CHECK.due("tuck beyond the left end", x.tuck(1, false, level), 0);
            CHECK.packet("alone at level " + level, x, "C", level == 0 ? "Ba" : "aB");
            x.undo();
            CHECK.due("tuck beyond the right end", x.tuck(2, true, level), 0);
            CHECK.packet("alone at level " + level, x, level == 0 ? "Bc" : "cB", "A");
        }
    }

    private static void marksOfTucks() {
        for (int level = 0; level <= 8; level++) {
            LockedLetter x = Check.of(2);
            x.tuck(1, true, level);
            CHECK.marks("an up one at level " + level, x, level == 0 ? 2 : 1);
            LockedLetter y = Check.of(3);
            y.fold(1, false, true);
            CHECK.packet("b and c lie down", y, "C", "aB");
            CHECK.due("tuck", y.tuck(1, true, level), 1);
            CHECK.marks("a down one at level " + level, y, 1, level == 0 ? 1 : 2);
        }
    }

    // ---- LAYERS that would pass through one another

    private static void creasesThatCross() {
        LockedLetter x = Check.of(4);
        x.fold(2, true, true);
        CHECK.packet("ready", x, "cB", "dA");
        // caDB: on the right c and d, a and b; a is between c and d, b is not.
        CHECK.due("just one between", x.tuck(1, false, 1), -2);
        CHECK.due("just one between, from the left", x.tuck(1, true, 1), -2);
        LockedLetter y = Check.of(4);
        y.fold(2, false, true);
        CHECK.packet("ready", y, "aD", "bC");
        CHECK.due("just one between, on the left side", y.tuck(1, true, 1), -2);
        CHECK.due("just one between, on the left side", y.tuck(1, false, 1), -2);
    }

    private static void creasesWithinOneAnother() {
        LockedLetter x = Check.of(4);
        x.fold(2, true, true);
        CHECK.due("both between", x.tuck(1, false, 2), 1);
        CHECK.packet("a and b between c and d on the right", x, "cBaD");
        x.undo();
        CHECK.due("both between", x.tuck(1, false, 0), 1);
        CHECK.packet("c and d between a and b on the right", x, "aDcB");
        LockedLetter y = threeLayersAndOne();
        CHECK.due("none between", y.tuck(1, true, 1), 2);
        CHECK.packet("a and b below c and d on the left", y, "bAdC");
    }

    private static void flatPartAtACrease() {
        LockedLetter x = Check.of(4);
        x.fold(1, true, true);
        CHECK.packet("a and b hang together on the left", x, "bA", "c", "d");
        CHECK.due("c hangs to d beyond that side, between them", x.tuck(1, false, 1), -2);
        CHECK.due("c above them", x.tuck(1, false, 2), 1);
        CHECK.packet("above", x, "D", "bAC");
        x.undo();
        CHECK.due("c below them", x.tuck(1, false, 0), 1);
        CHECK.packet("below", x, "D", "CbA");
        LockedLetter y = Check.of(3);
        y.fold(1, true, true);
        CHECK.due("c hangs to nothing beyond that side", y.tuck(1, false, 1), 1);
        CHECK.packet("between", y, "bCA");
        LockedLetter z = Check.of(4);
        z.fold(3, false, true);
        CHECK.packet("c and d hang together on the right", z, "a", "b", "cD");
        CHECK.due("b hangs to a beyond that side, between them", z.tuck(2, true, 1), -2);
        CHECK.due("b above them", z.tuck(2, true, 2), 1);
        CHECK.packet("above", z, "cDB", "A");
        LockedLetter w = Check.of(5);
        w.fold(1, true, true);
        CHECK.due("e hangs to d, but on the other side", w.tuck(2, false, 1), 1);
        CHECK.packet("between a and b", w, "bEA", "cD");
    }

    private static void flatPartsInOneOrder() {
        LockedLetter x = Check.of(5);
        x.fold(4, false, false);
        CHECK.packet("ready", x, "a", "b", "c", "Ed");
        CHECK.due("b over c, but a below d", x.tuck(2, true, 1), -2);
        CHECK.due("both above", x.tuck(2, true, 2), 1);
        x.undo();
        CHECK.due("both below", x.tuck(2, true, 0), 1);
        LockedLetter y = Check.of(5);
        y.fold(4, false, true);
        CHECK.due("b over c, and a over d, below e", y.tuck(2, true, 1), 1);
        CHECK.packet("one order on both sides", y, "cB", "dAE");
    }

    private static void tuckThatCannotBeChangesNothing() {
        CHECK.refused("tuck that can't be", Letters::some, x -> x.tuck(1, false, 1), -2);
    }

    // ---- promise 9

    private static void slitsFromOneLayerToAll() {
        for (int k = 1; k <= 8; k++) {
            LockedLetter x = new LockedLetter();
            eightLayers(x);
            CHECK.due("slit(0, " + k + ")", x.slit(0, k), 3);
            for (int layer = 0; layer < 8; layer++) {
                CHECK.due("slits of layer " + layer, x.part(x.at(0, layer), 3), layer >= 8 - k ? 1 : 0);
            }
        }
        LockedLetter y = new LockedLetter();
        CHECK.due("column 0", y.slit(0, 1), 0);
        CHECK.due("the last column", y.slit(3, 1), 1);
    }

    private static void slitsThatAreRefused() {
        for (int column : new int[] {LEAST, -1, 3, 4, 5, MOST}) {
            CHECK.refused("slit(" + column + ", 1)", Letters::some, x -> x.slit(column, 1), -1);
        }
        for (int k : new int[] {LEAST, -1, 0, 3, 8, 9, MOST}) {
            CHECK.refused("slit(0, " + k + ")", Letters::some, x -> x.slit(0, k), -1);
        }
        CHECK.refused("two of a column of one", Letters::some, x -> x.slit(2, 2), -1);
        CHECK.refused("nine of eight", SheetEdgesTest::eightLayers, x -> x.slit(0, 9), -1);
        CHECK.refused("none of no such column", Letters::some, x -> x.slit(-1, 0), -1);
        CHECK.refused("none of no such column", Letters::some, x -> x.slit(-1, -1), -1);
    }

    private static void slitsAreCounted() {
        LockedLetter x = new LockedLetter();
        for (int i = 1; i <= 40; i++) {
            x.slit(2, 1);
            CHECK.due("one more", x.part(2, 3), i);
            CHECK.due("undo", x.undo(), 0);
        }
        CHECK.due("none of its neighbours", x.part(1, 3) + x.part(3, 3), 0);
    }

    // ---- promise 10

    private static void locksFromTwoLayersToAll() {
        for (int k = 2; k <= 8; k++) {
            LockedLetter x = new LockedLetter();
            eightLayers(x);
            x.slit(0, k);
            CHECK.due("lock(0, " + k + ")", x.lock(0, k), 4);
            CHECK.due("one layer more has no slit", x.lock(0, k + 1), k == 8 ? -1 : -2);
            CHECK.due("fewer have", x.lock(0, 2), 5);
        }
    }

    private static void locksThatAreRefused() {
        for (int column : new int[] {LEAST, -1, 3, 4, 5, MOST}) {
            CHECK.refused("lock(" + column + ", 2)", Letters::some, x -> x.lock(column, 2), -1);
        }
        for (int k : new int[] {LEAST, -1, 0, 1, 3, 8, 9, MOST}) {
            CHECK.refused("lock(0, " + k + ")", Letters::some, x -> x.lock(0, k), -1);
        }
        CHECK.refused("lock of a column of one", Letters::some, x -> x.lock(2, 2), -1);
        CHECK.refused("lock of one of one", Letters::some, x -> x.lock(2, 1), -1);
    }

    private static void locksWithoutSlits() {
        CHECK.refused("no slits", Letters::some, x -> x.lock(1, 2), -2);
        CHECK.refused("the highest alone has one", x -> {
            x.sheet(2);
            x.fold(1, true, true);
            x.slit(0, 1);
        }, x -> x.lock(0, 2), -2);
        CHECK.refused("the lowest alone has one", x -> {
            x.sheet(2);
            x.slit(1, 1);
            x.fold(1, true, true);
        }, x -> x.lock(0, 2), -2);
        LockedLetter x = Check.of(3);
        x.slit(0, 1);
        x.slit(1, 1);
        x.undo();
        x.undo();
        x.fold(2, false, true);
        x.fold(1, false, false);
        CHECK.packet("c lowest, without a slit", x, "cBa");
        CHECK.due("slits that stayed, of the two highest", x.lock(0, 2), 2);
        CHECK.due("of all three", x.lock(0, 3), -2);
    }

    // ---- promise 11

    private static void sealsOfTheTwoHighest() {
        LockedLetter x = new LockedLetter();
        eightLayers(x);
        CHECK.due("seal(0)", x.seal(0), 3);
        for (int layer = 0; layer < 8; layer++) {
            CHECK.due("wax of layer " + layer, x.part(x.at(0, layer), 4), layer >= 6 ? 1 : 0);
        }
        LockedLetter y = Check.of(4);
        y.fold(2, true, true);
        CHECK.due("two layers, column 0", y.seal(0), 1);
        CHECK.due("two layers, the last column", y.seal(1), 2);
        for (int p = 0; p < 4; p++) {
            CHECK.due("wax of each", y.part(p, 4), 1);
        }
        y.seal(1);
        CHECK.due("one more", y.part(0, 4), 2);
        CHECK.due("one more", y.part(3, 4), 2);
        CHECK.due("none more", y.part(1, 4), 1);
        CHECK.due("wax is no slit", y.lock(1, 2), -2);
    }

    private static void sealsThatAreRefused() {
        for (int column : new int[] {LEAST, -1, 3, 4, 5, MOST}) {
            CHECK.refused("seal(" + column + ")", Letters::some, x -> x.seal(column), -1);
        }
        CHECK.refused("one layer", Letters::some, x -> x.seal(2), -1);
        CHECK.refused("one layer, flat", x -> { }, x -> x.seal(0), -1);
    }

    // ---- promise 12

    private static void soilOfOneLayerAndMore() {
        LockedLetter x = Check.of(3);
        x.fold(2, true, true);
        CHECK.packet("two layers, and one that lies down", x, "cB", "A");
        x.soil();
        CHECK.dirt("both faces of the one, the backs of the two", x, 1, 1, 0, 1, 0, 1);
        LockedLetter y = new LockedLetter();
        eightLayers(y);
        y.soil();
        int[] due = new int[16];
        due[2 * 7 + 1] = 1;
        due[2 * 6 + 1] = 1;
        CHECK.dirt("the back of the lowest, which is up, and of the highest, which is down", y, due);
        LockedLetter z = Check.of(2);
        z.fold(1, false, false);
        CHECK.packet("the lowest down, the highest up", z, "Ba");
        z.soil();
        CHECK.dirt("both texts", z, 1, 0, 1, 0);
    }

    private static void dirtIsThereOrNot() {
        LockedLetter x = Check.of(8);
        for (int i = 0; i < 16; i++) {
            CHECK.due("soil", x.soil(), i);
        }
        CHECK.dirt("dirt is 1", x, 1, 1, 1, 1, 1, 1, 1, 1, 1, 1, 1, 1, 1, 1, 1, 1);
    }

    // ---- sixteen ACTS

    private static void sixteenActsAndNoMore() {
        LockedLetter x = new LockedLetter();
        Letters.sixteenActs(x);
        CHECK.due("sixteen", x.count(2), 16);
        CHECK.due("the last has a harm", x.harm(15), 0);
        CHECK.refused("17th fold", Letters::sixteenActs, y -> y.fold(1, true, true), -1);
        CHECK.refused("17th tuck", Letters::sixteenActs, y -> y.tuck(1, true, 2), -1);
        CHECK.refused("17th tuck that can't be", Letters::sixteenActs, y -> y.tuck(1, false, 1), -1);
        CHECK.refused("17th slit", Letters::sixteenActs, y -> y.slit(0, 1), -1);
        CHECK.refused("17th lock", Letters::sixteenActs, y -> y.lock(0, 2), -1);
        CHECK.refused("17th lock without slits", Letters::sixteenActs, y -> y.lock(1, 2), -1);
        CHECK.refused("17th seal", Letters::sixteenActs, y -> y.seal(0), -1);
        CHECK.refused("17th soil", Letters::sixteenActs, LockedLetter::soil, -1);
    }

    private static void sixteenth(String what, ToLongFunction<LockedLetter> act) {
        LockedLetter x = new LockedLetter();
        Letters.sixteenActs(x);
        x.undo();
        CHECK.due("the 16th: " + what, act.applyAsLong(x), 15);
        CHECK.due("sixteen", x.count(2), 16);
        CHECK.due("no 17th", x.soil(), -1);
    }

    private static void undoMakesRoom() {
        sixteenth("fold", x -> x.fold(1, true, true));
        sixteenth("tuck", x -> x.tuck(1, true, 2));
        sixteenth("slit", x -> x.slit(0, 1));
        sixteenth("lock", x -> x.lock(0, 2));
        sixteenth("seal", x -> x.seal(0));
        sixteenth("soil", LockedLetter::soil);
        LockedLetter x = new LockedLetter();
        for (int i = 0; i < 40; i++) {
            CHECK.due("fold and undo as often as you like", x.fold(1, true, true), 0);
            CHECK.due("undo", x.undo(), 0);
        }
    }

    // ---- promise 13

    private static void undoOfNothing() {
        CHECK.refused("undo of a new object", x -> { }, LockedLetter::undo, -1);
        CHECK.refused("undo of all and one more", x -> {
            Letters.some(x);
            for (int i = 0; i < 5; i++) {
                x.undo();
            }
        }, LockedLetter::undo, -1);
        CHECK.refused("undo behind a new sheet", x -> {
            Letters.some(x);
            x.sheet(5);
        }, LockedLetter::undo, -1);
    }

    private static void undoToTheFlatSheet() {
        LockedLetter x = new LockedLetter();
        eightLayers(x);
        x.undo();
        CHECK.packet("two columns", x, "gBcF", "hAdE");
        x.undo();
        CHECK.packet("four columns", x, "eD", "fC", "gB", "hA");
        x.undo();
        CHECK.packet("flat", x, flat(8));
        CHECK.due("no acts", x.count(2), 0);
        for (int i = 0; i < 16; i++) {
            x.soil();
        }
        for (int i = 15; i >= 0; i--) {
            CHECK.due("undo", x.undo(), 0);
            CHECK.due("acts", x.count(2), i);
            CHECK.due("no such act", x.harm(i), -1);
        }
    }

    private static void marksStay() {
        LockedLetter x = Check.of(2);
        x.fold(1, true, true);
        x.slit(0, 2);
        x.lock(0, 2);
        x.seal(0);
        x.soil();
        for (int i = 0; i < 5; i++) {
            x.undo();
        }
        CHECK.marks("creases", x, 1);
        for (int p = 0; p < 2; p++) {
            CHECK.due("slits", x.part(p, 3), 1);
            CHECK.due("wax", x.part(p, 4), 1);
        }
        CHECK.dirt("dirt", x, 0, 1, 0, 1);
    }

    // ---- promises 14 to 17

    private static void numbersOfParts() {
        for (int parts = 2; parts <= 8; parts++) {
            LockedLetter x = Check.of(parts);
            for (int what = 0; what <= 7; what++) {
                CHECK.due("part(0, " + what + ")", x.part(0, what) >= 0, true);
                CHECK.due("part(last, " + what + ")", x.part(parts - 1, what) >= 0, true);
                for (int part : new int[] {LEAST, -1, parts, 8, MOST}) {
                    CHECK.due("part(" + part + ", " + what + ") of " + parts, x.part(part, what), -1);
                }
            }
            for (int part : new int[] {LEAST, -1, parts, 8, MOST}) {
                CHECK.due("ease(" + part + ") of " + parts, x.ease(part), -1);
                CHECK.due("undone(" + part + ") of " + parts, x.undone(part), -1);
            }
            CHECK.due("ease of the last", x.ease(parts - 1), 0);
            CHECK.due("undone of the last", x.undone(parts - 1), 0);
        }
    }

    private static void whatOfParts() {
        LockedLetter x = new LockedLetter();
        Letters.some(x);
        for (int what : new int[] {LEAST, -2, -1, 8, 9, MOST}) {
            for (int p = 0; p < 5; p++) {
                CHECK.due("part(" + p + ", " + what + ")", x.part(p, what), -1);
            }
        }
        int[][] due = {{1, 1, 0, 0, 1, 0, 0, 1}, {0, 1, 0, 1, 0, 0, 0, 1}, {0, 0, 1, 1, 0, 0, 0, 1}, {1, 0, 1, 0, 1, 0, 0, 1}, {2, 0, 1, 0, 0, 1, 1, 1}};
        for (int p = 0; p < 5; p++) {
            for (int what = 0; what <= 7; what++) {
                CHECK.due("part(" + p + ", " + what + ")", x.part(p, what), due[p][what]);
            }
        }
    }

    private static void numbersOfMarks() {
        for (int parts = 2; parts <= 8; parts++) {
            LockedLetter x = Check.of(parts);
            x.fold(parts - 1, true, false);
            CHECK.due("the last mark of " + parts, x.mark(parts - 2), 2);
            CHECK.due("the first mark of " + parts, x.mark(0), parts == 2 ? 2 : 0);
            for (int i : new int[] {LEAST, -1, parts - 1, parts, 8, MOST}) {
                CHECK.due("mark(" + i + ") of " + parts, x.mark(i), -1);
            }
        }
    }

    private static void numbersOfColumns() {
        for (int parts = 2; parts <= 8; parts++) {
            LockedLetter x = Check.of(parts);
            for (int i : new int[] {LEAST, -1, parts, parts + 1, 8, MOST}) {
                CHECK.due("layers(" + i + ") of " + parts, x.layers(i), -1);
                CHECK.due("at(" + i + ", 0) of " + parts, x.at(i, 0), -1);
            }
            CHECK.due("layers of the first", x.layers(0), 1);
            CHECK.due("layers of the last", x.layers(parts - 1), 1);
            x.fold(1, true, true);
            CHECK.due("a column less", x.layers(parts - 1), -1);
            CHECK.due("a column less", x.at(parts - 1, 0), -1);
            CHECK.due("the last one then", x.layers(parts - 2), parts == 2 ? 2 : 1);
        }
    }

    private static void numbersOfLayers() {
        LockedLetter x = new LockedLetter();
        CHECK.due("layer 1 of one", x.at(0, 1), -1);
        eightLayers(x);
        String pile = "hadefcbg";
        for (int layer = 0; layer < 8; layer++) {
            CHECK.due("at(0, " + layer + ")", x.at(0, layer), pile.charAt(layer) - 'a');
        }
        for (int layer : new int[] {LEAST, -1, 8, 9, MOST}) {
            CHECK.due("at(0, " + layer + ")", x.at(0, layer), -1);
        }
        CHECK.due("layers(0)", x.layers(0), 8);
        CHECK.due("layers(1)", x.layers(1), -1);
    }
}
