/** The edges that the document names in promises 22 to 26 and in section V, a method for each sentence. */
public final class FindsEdgesTest {
    private static final Check CHECK = new Check("FindsEdgesTest");
    private static final int LEAST = Integer.MIN_VALUE;
    private static final int MOST = Integer.MAX_VALUE;

    public static void main(String[] args) {
        nothingKnownAtFirst();
        findsOfEachPlace();
        findsThatAreRefused();
        findsTakenBack();
        findsInPlaceOfOthers();
        findsOfTheSheet();
        findsOfAFullSheet();
        findsDoNotFollowTheSheet();
        noTurnsAtAll();
        threeTurnsAndNoMore();
        tucksOfTheLeastLevel();
        tucksOfTheMostLevel();
        tucksThatCanBe();
        oneSlitAndNoMore();
        slitBehindAllTurns();
        slitsOfAllLayers();
        soilBehindAll();
        knownAreWhollyKnown();
        rowsOfNone();
        fewestTurnsFirst();
        lesserNumbersFirst();
        numbersOfActs();
        slitsByNumber();
        noSoilFirst();
        numbersOfRows();
        longestRow();
        shutOnceBeforeTwice();
        shutTwiceOnOneLine();
        shutTwiceByAlikeRows();
        shutNeither();
        CHECK.end();
    }

    private static void creases(LockedLetter x, int... due) {
        for (int i = 0; i < due.length; i++) {
            CHECK.due("find(0, " + i + ", " + due[i] + ")", x.find(0, i, due[i]), true);
        }
    }

    private static void slits(LockedLetter x, int... due) {
        for (int i = 0; i < due.length; i++) {
            CHECK.due("find(1, " + i + ", " + due[i] + ")", x.find(1, i, due[i]), true);
        }
    }

    private static void dirt(LockedLetter x, int... due) {
        for (int i = 0; i < due.length; i++) {
            CHECK.due("find(2, " + i + ", " + due[i] + ")", x.find(2, i, due[i]), true);
        }
    }

    // ---- promise 22

    private static void nothingKnownAtFirst() {
        // Flat: 3 slits or none; each of four FOLDS: 3; all with soil or without.
        CHECK.due("two parts", Check.of(2).rows(), 2 * (3 + 4 * 3));
        CHECK.row("of which the first does nothing", Check.of(2));
        CHECK.due("shut once", Check.of(2).shut(), 1);
    }

    private static void findsOfEachPlace() {
        for (int parts = 2; parts <= 8; parts++) {
            LockedLetter x = Check.of(parts);
            int[] places = {parts - 1, parts, 2 * parts};
            int[] most = {3, 1, 1};
            for (int what = 0; what < 3; what++) {
                for (int i : new int[] {0, places[what] - 1}) {
                    for (int v = -1; v <= most[what]; v++) {
                        CHECK.due("find(" + what + ", " + i + ", " + v + ")", x.find(what, i, v), true);
                    }
                    CHECK.due("one more than there is", x.find(what, i, most[what] + 1), false);
                    CHECK.due("less than not known", x.find(what, i, -2), false);
                }
                CHECK.due("a place more", x.find(what, places[what], 0), false);
                CHECK.due("a place more, not known", x.find(what, places[what], -1), false);
                CHECK.due("a place below 0", x.find(what, -1, 0), false);
            }
        }
    }

    private static void refused(int what, int i, int v) {
        CHECK.refused("find(" + what + ", " + i + ", " + v + ")", Letters::some, x -> x.find(what, i, v) ? 1 : 0, 0);
    }

    private static void findsThatAreRefused() {
        for (int what : new int[] {LEAST, -1, 3, 4, MOST}) {
            refused(what, 0, 0);
            refused(what, 0, -1);
        }
        int[] places = {4, 5, 10};
        int[] most = {3, 1, 1};
        for (int what = 0; what < 3; what++) {
            for (int i : new int[] {LEAST, -1, places[what], places[what] + 1, 32 + 1, MOST}) {
                refused(what, i, -1);
                refused(what, i, 1);
            }
            for (int v : new int[] {LEAST, -2, most[what] + 1, most[what] + 2, MOST}) {
                refused(what, 0, v);
                refused(what, 1, v);
            }
        }
    }

    private static void findsTakenBack() {
        for (int parts : new int[] {2, 3, 8}) {
            LockedLetter x = Check.of(parts);
            int all = x.rows();
            int[] places = {parts - 1, parts, 2 * parts};
            for (int what = 0; what < 3; what++) {
                for (int i : new int[] {0, places[what] - 1}) {
                    for (int v = 0; v <= 1; v++) {
                        x.find(what, i, v);
                        CHECK.due("fewer rows by what is known", x.rows() < all, true);
                        x.find(what, i, LockedLetter.NONE);
                        CHECK.due("not known again", x.rows(), all);
                    }
                }
            }
        }
    }

    private static void findsInPlaceOfOthers() {
        LockedLetter x = Check.of(2);
        creases(x, 3);
        CHECK.due("both", x.rows(), 0);
        creases(x, 1);
        CHECK.due("up instead", x.rows(), 12);
        creases(x, 2);
        CHECK.due("down instead", x.rows(), 12);
        creases(x, 0);
        CHECK.due("none instead", x.rows(), 6);
        slits(x, 1, 0);
        CHECK.due("a alone has slits", x.rows(), 2);
        CHECK.row("a alone", x, 1001);
        slits(x, 0, 0);
        CHECK.due("none has", x.rows(), 2);
        CHECK.row("none has", x);
        dirt(x, 1, 1, 1, 1);
        CHECK.due("soiled", x.rows(), 1);
        dirt(x, 0, 0, 0, 0);
        CHECK.due("clean", x.rows(), 1);
    }

    // ---- promise 23

    private static void findsOfTheSheet() {
        LockedLetter x = Check.of(2);
        x.find(0, 0, 3);
        x.finds();
        CHECK.due("nothing was done, and all of that is known", x.rows(), 1);
        CHECK.row("nothing", x);
        x.fold(1, true, true);
        x.finds();
        CHECK.due("left over or right over", x.rows(), 2);
        x.slit(0, 1);
        x.finds();
        CHECK.due("left over, a slit", x.rows(), 1);
        CHECK.row("left over, a slit", x, 100, 1001);
        x.slit(0, 1);
        x.finds();
        CHECK.due("whether there are slits, not how many", x.rows(), 1);
        x.soil();
        x.finds();
        CHECK.row("and soil", x, 100, 1001, 2000);
        x.seal(0);
        x.finds();
        CHECK.row("wax is no find", x, 100, 1001, 2000);
        x.undo();
        x.undo();
        x.finds();
        CHECK.row("marks that stayed", x, 100, 1001, 2000);
    }

    private static void findsOfAFullSheet() {
        LockedLetter x = Check.of(8);
        x.fold(4, true, true);
        x.fold(2, true, true);
        x.fold(1, true, true);
        x.slit(0, 8);
        x.soil();
        x.finds();
        CHECK.row("eight parts in one pile", x, 400, 200, 100, 1008, 2000);
        for (int i = 0; i < 7; i++) {
            CHECK.due("each crease is known", x.find(0, i, 3 - x.mark(i)), true);
            CHECK.due("and can't be another one", x.rows(), 0);
            x.find(0, i, x.mark(i));
        }
        for (int i = 0; i < 8; i++) {
            x.find(1, i, 0);
            CHECK.due("each part's slits are known", x.row(3) == 1008, false);
            x.find(1, i, 1);
        }
        for (int i = 0; i < 16; i++) {
            int v = x.part(i / 2, 6 + i % 2);
            x.find(2, i, 1 - v);
            CHECK.due("each face's dirt is known", x.rows(), 0);
            x.find(2, i, v);
        }
        CHECK.due("as before", x.row(4), 2000);
    }

    private static void findsDoNotFollowTheSheet() {
        LockedLetter x = Check.of(3);
        x.finds();
        x.fold(1, true, true);
        x.slit(0, 1);
        x.soil();
        CHECK.due("known of the flat sheet", x.rows(), 1);
        CHECK.row("nothing", x);
        x.sheet(3);
        CHECK.due("no finds of a new sheet", x.rows(), 456);
        x.find(0, 0, 3);
        CHECK.due("refused", x.sheet(9), false);
        CHECK.due("finds stay then", x.rows(), 0);
    }

    // ---- the ROWS

    private static void noTurnsAtAll() {
        LockedLetter x = Check.of(8);
        creases(x, 0, 0, 0, 0, 0, 0, 0);
        CHECK.due("flat: a slit of eight or none, soil or none", x.rows(), 18);
        CHECK.row("nothing", x);
        slits(x, 0, 0, 0, 0, 0, 0, 0, 1);
        CHECK.row("the last column", x, 1071);
        slits(x, 1, 0, 0, 0, 0, 0, 0, 0);
        CHECK.row("the first column", x, 1001);
    }

    private static void threeTurnsAndNoMore() {
        LockedLetter x = Check.of(4);
        creases(x, 1, 1, 1);
        CHECK.due("rolled up by three", x.shut(), 1);
        CHECK.row("rolled up by three", x, 100, 100, 100);
        LockedLetter y = Check.of(5);
        creases(y, 1, 1, 1, 1);
        // Two layers that lie next to one another are creased unlike, so that a roll takes a turn for each crease.
        CHECK.due("rolled up by four", y.rows(), 0);
        CHECK.row("none", y);
        for (int i = 0; i < 4; i++) {
            y.find(0, i, -1);
            CHECK.due("but for one crease", y.shut(), 1);
            y.find(0, i, 1);
        }
        LockedLetter z = Check.of(5);
        for (int i = 0; i < 4; i++) {
            z.fold(1, true, true);
        }
        CHECK.marks("four turns", z, 1, 1, 1, 1);
        z.finds();
        CHECK.due("a sheet turned four times", z.rows(), 0);
    }

    private static void tucksOfTheLeastLevel() {
        // Two parts have no TUCK: the most LAYERS ahead of the one turn are 1, and LEVELS 1 .. 0 are none.
        CHECK.due("two parts", Check.of(2).rows(), 30);
        LockedLetter x = Check.of(3);
        creases(x, 1, 1);
        slits(x, 0, 0, 0);
        // Twelve ways to turn it so, TUCKS at LEVEL 1 among them, with soil or without.
        CHECK.due("three parts, up and up", x.rows(), 24);
        LockedLetter y = Check.of(3);
        y.fold(1, true, true);
        y.tuck(1, false, 1);
        y.slit(0, 2);
        y.soil();
        y.finds();
        CHECK.packet("c between b and a", y, "bCA");
        CHECK.row("a tuck at level 1", y, 100, 112, 1002, 2000);
    }

    private static void tucksOfTheMostLevel() {
        LockedLetter x = Check.of(4);
        x.fold(1, false, true);
        x.fold(2, true, true);
        CHECK.packet("three layers at most", x, "aBc", "d");
        x.tuck(1, false, 2);
        CHECK.packet("at level 2", x, "aBDc");
        x.slit(0, 2);
        x.soil();
        x.finds();
        CHECK.row("a tuck at level 2, one less than the most", x, 100, 101, 113, 1002, 2000);
    }

    private static void tucksThatCanBe() {
        LockedLetter x = Check.of(4);
        x.fold(2, true, true);
        CHECK.due("it can't be", x.tuck(1, false, 1), -2);
        // It would be caDB: creased down, up and up, dirty below c and above b.
        creases(x, 2, 1, 1);
        dirt(x, 0, 0, 0, 1, 0, 1, 0, 0);
        slits(x, 1, 1, 0, 0);
        CHECK.due("cDaB has the same marks, and a below b", x.shut(), 1);
        slits(x, 0, 1, 0, 1);
        CHECK.due("no row has d below b", x.rows(), 0);
    }

    private static void oneSlitAndNoMore() {
        LockedLetter x = Check.of(3);
        creases(x, 0, 0);
        slits(x, 1, 0, 0);
        CHECK.due("one part", x.rows(), 2);
        slits(x, 1, 0, 1);
        CHECK.due("two parts of a flat sheet", x.rows(), 0);
        slits(x, 0, 0, 0);
        CHECK.due("none", x.rows(), 2);
        x.slit(0, 1);
        x.slit(2, 1);
        x.finds();
        CHECK.due("a sheet slit twice", x.rows(), 0);
        LockedLetter y = Check.of(4);
        creases(y, 0, 1, 0);
        slits(y, 1, 0, 0, 1);
        CHECK.due("both of a pile", y.shut(), 1);
        slits(y, 1, 1, 0, 0);
        CHECK.due("one of each of two piles", y.rows(), 0);
    }

    private static void slitBehindAllTurns() {
        LockedLetter x = Check.of(2);
        x.slit(0, 1);
        x.fold(1, false, true);
        CHECK.packet("a lowest, slit ahead of the fold", x, "aB");
        x.soil();
        x.finds();
        CHECK.row("told as of the fold left over", x, 100, 1001, 2000);
        LockedLetter y = Check.of(3);
        y.slit(1, 1);
        y.fold(1, true, true);
        y.finds();
        CHECK.due("b was slit, then a laid over it: as if b had been laid over a, and slit", y.rows(), 1);
        CHECK.row("by the fold of the right side", y, 110, 1011);
    }

    private static void slitsOfAllLayers() {
        for (int k = 1; k <= 4; k++) {
            LockedLetter x = Check.of(4);
            x.fold(2, true, true);
            x.fold(1, true, true);
            x.slit(0, k);
            x.soil();
            x.finds();
            CHECK.row("slit of " + k, x, 200, 100, 1000 + k, 2000);
        }
        LockedLetter y = Check.of(4);
        y.fold(2, true, true);
        y.slit(1, 2);
        y.soil();
        y.finds();
        CHECK.row("slit of the last column", y, 200, 1012, 2000);
    }

    private static void soilBehindAll() {
        LockedLetter x = Check.of(2);
        x.soil();
        x.finds();
        CHECK.due("soiled flat", x.rows(), 1);
        CHECK.row("soil", x, 2000);
        x.fold(1, true, true);
        x.finds();
        CHECK.due("soiled ahead of a fold", x.rows(), 0);
        CHECK.row("none", x);
        LockedLetter y = Check.of(2);
        y.soil();
        y.slit(0, 1);
        y.finds();
        CHECK.row("a slit behind soil looks like one ahead", y, 1001, 2000);
    }

    private static void knownAreWhollyKnown() {
        LockedLetter x = Check.of(3);
        creases(x, 3, -1);
        CHECK.due("both, by one row", x.rows(), 0);
        creases(x, 0, -1);
        int none = x.rows();
        creases(x, 1, -1);
        int up = x.rows();
        creases(x, 2, -1);
        int down = x.rows();
        CHECK.due("a crease is none, up or down", none + up + down, 456);
        CHECK.due("up as often as down", up, down);
        creases(x, -1, -1);
        slits(x, 1, -1, -1);
        int with = x.rows();
        slits(x, 0, -1, -1);
        CHECK.due("slits or none", with + x.rows(), 456);
        slits(x, -1, -1, -1);
        dirt(x, -1, -1, -1, -1, -1, 1);
        with = x.rows();
        dirt(x, -1, -1, -1, -1, -1, 0);
        CHECK.due("dirt or none", with + x.rows(), 456);
    }

    // ---- promises 24 and 25

    private static void rowsOfNone() {
        LockedLetter x = Check.of(2);
        creases(x, 3);
        CHECK.due("none fits", x.rows(), 0);
        for (int i : new int[] {LEAST, -1, 0, 1, MOST}) {
            CHECK.due("row(" + i + ")", x.row(i), -1);
        }
        creases(x, 0);
        slits(x, 0, 0);
        dirt(x, 0, 0, 0, 0);
        CHECK.due("the row without acts", x.rows(), 1);
        for (int i : new int[] {LEAST, -1, 0, 1, MOST}) {
            CHECK.due("row(" + i + ")", x.row(i), -1);
        }
    }

    private static void fewestTurnsFirst() {
        LockedLetter x = Check.of(5);
        x.find(0, 3, 1);
        CHECK.row("one turn of a great number", x, 400);
        x.find(0, 3, 2);
        CHECK.row("one turn of a great number", x, 401);
        x.find(0, 0, 1);
        CHECK.row("two turns", x, 100, 301);
        x.find(1, 0, 1);
        x.find(1, 4, 0);
        CHECK.row("a slit is no turn", x, 100, 301, 1022);
    }

    private static void lesserNumbersFirst() {
        LockedLetter x = Check.of(2);
        creases(x, 1);
        CHECK.row("left ahead of right", x, 100);
        slits(x, 0, 1);
        CHECK.row("right, where b is the highest", x, 110, 1001);
        creases(x, 2);
        CHECK.row("left under, where b is the highest", x, 101, 1001);
        slits(x, 1, 0);
        CHECK.row("right under, where a is the highest", x, 111, 1001);
        LockedLetter y = Check.of(3);
        creases(y, -1, 1);
        CHECK.row("line 2 is the only one", y, 200);
        creases(y, 1, 2);
        CHECK.row("the first act counts more", y, 100, 101);
        creases(y, 2, 1);
        CHECK.row("the first act counts more", y, 101, 100);
    }

    private static void numbersOfActs() {
        for (int line = 1; line < 8; line++) {
            LockedLetter x = Check.of(8);
            x.find(0, line - 1, 1);
            CHECK.row("left over", x, 100 * line);
            x.find(0, line - 1, 2);
            CHECK.row("left under", x, 100 * line + 1);
            for (int right = 0; right <= 1; right++) {
                for (int under = 0; under <= 1; under++) {
                    x.sheet(8);
                    x.fold(line, right == 0, under == 0);
                    // Which side was turned is told by the PART that lies highest at the crease, and is slit.
                    x.slit(x.part(line, 0), 1);
                    x.finds();
                    CHECK.due("number of the fold", x.row(0), 100 * line + 10 * right + under);
                    CHECK.due("number of the slit", x.row(1), 1001 + 10 * x.part(line, 0));
                    CHECK.due("no more", x.row(2), -1);
                }
            }
        }
        LockedLetter y = Check.of(8);
        creases(y, 0, 0, 0, 0, 0, 1, 1);
        CHECK.row("the last line, and the one ahead of it", y, 700, 101);
    }

    private static void slitsByNumber() {
        LockedLetter x = Check.of(4);
        creases(x, 0, 1, 0);
        CHECK.row("no slit", x, 200);
        x.find(1, 0, 1);
        CHECK.row("a is the highest of column 1", x, 200, 1011);
        x.find(1, 3, 1);
        CHECK.row("both of column 1", x, 200, 1012);
        x.find(1, 0, -1);
        CHECK.row("d is the lower one there", x, 200, 1012);
        x.find(1, 3, -1);
        x.find(1, 2, 1);
        CHECK.row("both of column 0", x, 200, 1002);
    }

    private static void noSoilFirst() {
        LockedLetter x = Check.of(2);
        creases(x, 1);
        dirt(x, 0, -1, 0, -1);
        CHECK.due("soil or none, three slits or none, two folds", x.rows(), 12);
        CHECK.row("without soil", x, 100);
        dirt(x, 0, 1, 0, -1);
        CHECK.row("with soil", x, 100, 2000);
        dirt(x, 0, 0, 0, -1);
        CHECK.due("none alone", x.rows(), 6);
        CHECK.row("without soil", x, 100);
        // Soil would have to come behind a slit here, but the slit's number tells first.
        slits(x, 1, 1);
        CHECK.row("a slit", x, 100, 1002);
    }

    private static void numbersOfRows() {
        int[] due = {30, 456, 6850, 24972, 59374, 131856, 238050};
        for (int parts = 2; parts <= 8; parts++) {
            LockedLetter x = Check.of(parts);
            CHECK.due("all rows of " + parts, x.rows(), due[parts - 2]);
            CHECK.due("asked again", x.rows(), due[parts - 2]);
        }
        LockedLetter y = new LockedLetter();
        for (int parts : new int[] {8, 2, 8, 3, 7}) {
            y.sheet(parts);
            CHECK.due("another sheet of " + parts, y.rows(), due[parts - 2]);
        }
    }

    private static void longestRow() {
        LockedLetter x = Check.of(4);
        x.fold(1, false, true);
        x.fold(2, true, true);
        x.tuck(1, false, 2);
        x.slit(0, 2);
        x.soil();
        x.finds();
        CHECK.due("row(4)", x.row(4), 2000);
        for (int i : new int[] {LEAST, -1, 5, 6, MOST}) {
            CHECK.due("row(" + i + ")", x.row(i), -1);
        }
    }

    // ---- promise 26

    private static void shutOnceBeforeTwice() {
        LockedLetter x = Check.of(2);
        CHECK.due("nothing known", x.shut(), 1);
        creases(x, 0);
        CHECK.due("no crease", x.shut(), 1);
        creases(x, 1);
        CHECK.due("up", x.shut(), 1);
        creases(x, 2);
        CHECK.due("down", x.shut(), 1);
        creases(x, 3);
        CHECK.due("both", x.shut(), 2);
        creases(x, 0);
        slits(x, 0, 0);
        dirt(x, 0, 0, 0, 0);
        CHECK.due("one row alone fits", x.rows(), 1);
        CHECK.due("which is once", x.shut(), 1);
        x.fold(1, true, true);
        x.undo();
        x.finds();
        CHECK.due("a sheet shut and opened", x.shut(), 1);
        x.fold(1, true, false);
        x.finds();
        CHECK.due("and shut the other way", x.shut(), 2);
    }

    private static void shutTwiceOnOneLine() {
        LockedLetter x = Check.of(5);
        creases(x, 1, 1, 1, 1);
        CHECK.due("a roll of four in two goes", x.shut(), 2);
        creases(x, 3, 3, 3, 3);
        CHECK.due("both on all four lines", x.shut(), 2);
        creases(x, 3, 0, 0, 0);
        CHECK.due("up, then down", x.shut(), 2);
        creases(x, 1, 3, 3, 0);
        CHECK.due("both rows crease the first line up", x.shut(), 2);
        creases(x, 2, 3, 3, 0);
        CHECK.due("both rows crease the first line down", x.shut(), 2);
        creases(x, 0, 3, 3, 1);
        CHECK.due("both rows crease the last line up", x.shut(), 2);
        creases(x, 0, 3, 3, 2);
        CHECK.due("both rows crease the last line down", x.shut(), 2);
        LockedLetter w = Check.of(6);
        for (int middle = 1; middle <= 2; middle++) {
            creases(w, 3, 3, middle, 3, 3);
            CHECK.due("both rows crease the middle line alike", w.shut(), 2);
        }
        LockedLetter y = Check.of(8);
        creases(y, 1, 1, 1, 1, 1, 1, 0);
        CHECK.due("three and three", y.shut(), 2);
        creases(y, 1, 1, 1, 1, 1, 1, 1);
        CHECK.due("seven turns are too many for two goes", y.shut(), 0);
        y.find(0, 6, -1);
        CHECK.due("but for one that is not known", y.shut(), 2);
    }

    private static void shutTwiceByAlikeRows() {
        LockedLetter x = Check.of(2);
        creases(x, 0);
        slits(x, 1, 1);
        CHECK.due("two slits of a flat sheet", x.rows(), 0);
        CHECK.due("two rows without creases together have none", x.shut(), 2);
        creases(x, 1);
        slits(x, 0, 0);
        dirt(x, 1, 1, 1, 1);
        CHECK.due("dirt that no row leaves", x.rows(), 0);
        CHECK.due("creases that each of two leaves", x.shut(), 2);
    }

    private static void shutNeither() {
        LockedLetter x = Check.of(5);
        creases(x, 0, 2, 3, 0);
        // A row with both middle creases has one at an end too; those with but one of them are three in all.
        CHECK.due("three rows would be due", x.shut(), 0);
        CHECK.due("no row", x.rows(), 0);
        CHECK.row("none", x);
        creases(x, 0, 2, 2, 0);
        CHECK.due("two would do", x.shut(), 2);
        creases(x, 0, 2, 0, 0);
        CHECK.due("one would do", x.shut(), 1);
        creases(x, 3, 3, 3, 3);
        CHECK.due("two would do", x.shut(), 2);
        creases(x, 0, 2, 3, 0);
        CHECK.due("three would be due, whatever was known before", x.shut(), 0);
        LockedLetter y = Check.of(8);
        creases(y, 3, 3, 3, 3, 3, 3, 3);
        CHECK.due("eight parts folded to one pile, over and under", y.shut(), 2);
        y.sheet(5);
        creases(y, 0, 2, 3, 0);
        CHECK.due("a smaller sheet", y.shut(), 0);
        CHECK.due("a smaller sheet", y.rows(), 0);
        creases(x, -1, 2, 3, 0);
        CHECK.due("an end not known", x.shut(), 2);
    }
}
