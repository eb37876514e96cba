/** Promises 22 to 26: FINDS, the ROWS that FIT, and whether a SHEET was shut before. */
public final class FindsTest {
    private static final Check CHECK = new Check("FindsTest");

    public static void main(String[] args) {
        finding();
        nothingKnown();
        creases();
        slits();
        dirt();
        orderOfRows();
        tucksInRows();
        marksOfTheSheet();
        shutTwice();
        neither();
        CHECK.end();
    }

    private static void finding() {
        LockedLetter x = Check.of(3);
        int[] lengths = {2, 3, 6};
        int[] most = {3, 1, 1};
        for (int what = 0; what < 3; what++) {
            for (int i = -1; i <= lengths[what]; i++) {
                for (int v = -2; v <= 4; v++) {
                    boolean due = i >= 0 && i < lengths[what] && v >= -1 && v <= most[what];
                    CHECK.due("find(" + what + ", " + i + ", " + v + ")", x.find(what, i, v), due);
                }
            }
            CHECK.due("find far off", x.find(what, Integer.MAX_VALUE, 0), false);
            CHECK.due("find far below", x.find(what, Integer.MIN_VALUE, 0), false);
        }
        CHECK.due("find(3, 0, 0)", x.find(3, 0, 0), false);
        CHECK.due("find(-1, 0, 0)", x.find(-1, 0, 0), false);
        for (int what = 0; what < 3; what++) {
            for (int i = 0; i < lengths[what]; i++) {
                CHECK.due("not known again", x.find(what, i, LockedLetter.NONE), true);
            }
        }
        CHECK.due("nothing known", x.rows(), 456);
        x.find(0, 0, 4);
        x.find(1, 0, 2);
        x.find(2, 6, 1);
        CHECK.due("refused finds change nothing", x.rows(), 456);
    }

    private static void nothingKnown() {
        int[] due = {30, 456, 6850, 24972, 59374, 131856, 238050};
        for (int parts = 2; parts <= 8; parts++) {
            LockedLetter x = Check.of(parts);
            CHECK.due("rows of " + parts, x.rows(), due[parts - 2]);
            CHECK.row("nothing done", x);
            CHECK.due("shut once", x.shut(), 1);
        }
    }

    private static void creases() {
        LockedLetter x = Check.of(2);
        x.find(0, 0, 1);
        CHECK.due("two folds over, each with 6 endings", x.rows(), 12);
        CHECK.row("left over", x, 100);
        x.find(0, 0, 2);
        CHECK.due("two folds under", x.rows(), 12);
        CHECK.row("left under", x, 101);
        x.find(0, 0, 0);
        CHECK.due("not folded", x.rows(), 6);
        CHECK.row("none", x);
        x.find(0, 0, 3);
        CHECK.due("both by one row", x.rows(), 0);
        CHECK.row("none fits", x);
        x.find(0, 0, -1);
        CHECK.due("not known", x.rows(), 30);
    }

    private static void slits() {
        LockedLetter x = Check.of(2);
        x.find(1, 0, 1);
        // Flat: a alone. bA, aB, Ab, Ba: where a is the highest, both slits; else the slit of two.
        CHECK.due("a has slits", x.rows(), 2 * (1 + 2 + 1 + 1 + 2));
        CHECK.row("flat, slit", x, 1001);
        x.find(1, 1, 1);
        CHECK.due("both", x.rows(), 2 * 4);
        CHECK.row("folded, slit through", x, 100, 1002);
        x.find(1, 0, 0);
        CHECK.row("b alone", x, 1011);
        x.find(1, 1, 0);
        CHECK.due("none has", x.rows(), 10);
        CHECK.row("none", x);
    }

    private static void dirt() {
        LockedLetter x = Check.of(2);
        for (int face = 0; face < 4; face++) {
            x.find(2, face, 1);
        }
        CHECK.due("dirty all over", x.rows(), 3);
        CHECK.row("flat, soiled", x, 2000);
        x.find(2, 0, 0);
        x.find(2, 2, 0);
        CHECK.due("dirty backs", x.rows(), 2 * 3);
        CHECK.row("texts inside", x, 100, 2000);
        x.find(2, 0, 1);
        CHECK.due("one text", x.rows(), 0);
        x.find(2, 1, 0);
        x.find(2, 3, 0);
        x.find(2, 2, 1);
        CHECK.due("dirty texts", x.rows(), 2 * 3);
        CHECK.row("texts outside", x, 101, 2000);
        for (int face = 0; face < 4; face++) {
            x.find(2, face, 0);
        }
        CHECK.due("clean", x.rows(), 15);
        CHECK.row("nothing", x);
    }

    private static void orderOfRows() {
        LockedLetter x = Check.of(4);
        x.find(0, 1, 1);
        CHECK.row("the first line that does it", x, 200);
        x.find(0, 2, 2);
        CHECK.row("two turns", x, 200, 101);
        x.find(0, 0, 0);
        CHECK.row("two turns without the first crease", x, 301, 101);
    }

    private static void tucksInRows() {
        LockedLetter x = Check.of(4);
        x.fold(1, false, true);
        x.fold(2, true, true);
        x.tuck(1, false, 2);
        x.slit(0, 2);
        x.soil();
        x.finds();
        CHECK.due("rows with a tuck", x.rows(), 2);
        CHECK.row("a tuck to the right at level 2", x, 100, 101, 113, 1002, 2000);
        LockedLetter y = Check.of(3);
        for (int i = 0; i < 2; i++) {
            y.find(0, i, 1);
        }
        // Twelve ways to turn it so, each with three slits or none and soil or none.
        CHECK.due("creases up, up", y.rows(), 96);
    }

    private static void marksOfTheSheet() {
        LockedLetter x = Check.of(5);
        x.fold(4, false, true);
        x.tuck(2, true, 1);
        x.slit(1, 2);
        x.soil();
        x.finds();
        CHECK.due("fits", x.shut(), 1);
        CHECK.due("dirt is known", x.find(2, 0, 1 - x.part(0, 6)), true);
        CHECK.due("and spoils it", x.rows(), 0);
        x.finds();
        CHECK.due("as before", x.shut(), 1);
        LockedLetter y = Check.of(3);
        y.finds();
        CHECK.due("a clean flat sheet", y.rows(), 1);
        CHECK.row("nothing was done", y);
        y.fold(1, true, true);
        CHECK.due("finds do not follow the sheet", y.rows(), 1);
        y.seal(0);
        y.finds();
        CHECK.due("wax is no find", y.rows(), 2);
        CHECK.row("one fold", y, 100);
        y.sheet(3);
        CHECK.due("a new sheet has no finds", y.rows(), 456);
    }

    private static void shutTwice() {
        LockedLetter x = Check.of(3);
        x.find(0, 0, 3);
        x.find(0, 1, 0);
        CHECK.due("over once, under once", x.shut(), 2);
        x.find(0, 1, 3);
        CHECK.due("both, both", x.shut(), 2);
        x.find(0, 1, 1);
        CHECK.due("both, up", x.shut(), 2);
        x.find(0, 0, 1);
        CHECK.due("up, up", x.shut(), 1);
        LockedLetter y = Check.of(2);
        y.find(0, 0, 1);
        y.find(2, 0, 1);
        y.find(2, 1, 0);
        y.find(2, 2, 0);
        y.find(2, 3, 0);
        CHECK.due("no soil does that", y.rows(), 0);
        CHECK.due("creases alone tell of twice", y.shut(), 2);
        y.find(0, 0, -1);
        CHECK.due("twice without creases known", y.shut(), 2);
    }

    private static void neither() {
        LockedLetter x = Check.of(5);
        int[] creases = {0, 2, 3, 0};
        for (int i = 0; i < 4; i++) {
            x.find(0, i, creases[i]);
        }
        // A row that leaves no crease at the ends has but one of the two others, and a third row would be due.
        CHECK.due("neither once nor twice", x.shut(), 0);
        CHECK.due("no rows", x.rows(), 0);
        x.find(0, 3, -1);
        CHECK.due("twice, if the last crease is not known", x.shut(), 2);
        x.find(0, 3, 0);
        x.find(0, 1, 0);
        CHECK.due("twice, if the second is none", x.shut(), 2);
        x.find(0, 2, 2);
        CHECK.due("once", x.shut(), 1);
        LockedLetter y = Check.of(6);
        int[] others = {0, 0, 1, 3, 0};
        for (int i = 0; i < 5; i++) {
            y.find(0, i, others[i]);
        }
        CHECK.due("neither, of six parts", y.shut(), 0);
        y.find(0, 0, -1);
        CHECK.due("the first crease not known", y.shut(), 0);
        y.find(0, 1, -1);
        y.find(0, 4, -1);
        CHECK.due("its neighbours not known", y.shut(), 2);
    }
}
