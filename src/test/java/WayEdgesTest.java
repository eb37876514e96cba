/** The edges that the document names in promises 27 to 34 and in section VI, a method for each sentence. */
public final class WayEdgesTest {
    private static final Check CHECK = new Check("WayEdgesTest");
    private static final int LEAST = Integer.MIN_VALUE;
    private static final int MOST = Integer.MAX_VALUE;

    public static void main(String[] args) {
        sixHandsAndNoMore();
        thirtySixDaysAndNoMore();
        handsThatAreRefused();
        fortyLooksAndNoMore();
        looksOfEachDay();
        looksThatAreRefused();
        knownByNoneToAll();
        noSuchN();
        noSuchDay();
        noSuchHand();
        withoutHands();
        wholeAheadOfDayZero();
        neverWholeAgain();
        openedAgain();
        changeByTheHandOfTheNextDay();
        changesOnTheFirstDayAndTheLast();
        costsWithoutRules();
        costsAreHeld();
        sumsAreNotHeld();
        costsOfWhatComesLater();
        firstRuleThatHolds();
        varsOfChanges();
        varsOfDoubts();
        alikeLooksCountEach();
        leastNumbersFirst();
        asManyTalesAsThereCanBe();
        sureClearOrNeither();
        openedOnOneOfItsDays();
        turnedFromALookOn();
        turnedByNone();
        turnedOfNoSuchLook();
        countsOfNothing();
        countsOfAFullHouse();
        noSuchCount();
        oddQuestionsChangeNothing();
        CHECK.end();
    }

    // ---- promise 27

    private static void sixHandsAndNoMore() {
        LockedLetter x = new LockedLetter();
        for (int i = 0; i < 6; i++) {
            CHECK.due("hand " + i, x.hand(1), i);
            CHECK.due("hands", x.count(6), i + 1);
            CHECK.due("days", x.count(7), i + 1);
        }
        CHECK.refused("a seventh", WayEdgesTest::sixHands, y -> y.hand(1), -1);
        CHECK.refused("a seventh", WayEdgesTest::sixHands, y -> y.hand(24), -1);
    }

    private static void sixHands(LockedLetter x) {
        Letters.some(x);
        for (int i = 2; i < 6; i++) {
            x.hand(2);
        }
    }

    private static void thirtySixDaysAndNoMore() {
        for (int first = 1; first <= 36; first++) {
            LockedLetter x = new LockedLetter();
            CHECK.due("hand(" + first + ")", x.hand(first), 0);
            CHECK.due("too many by one", x.hand(37 - first), -1);
            CHECK.due("days", x.count(7), first);
            if (first < 36) {
                CHECK.due("as many as are left", x.hand(36 - first), 1);
            }
            CHECK.due("days", x.count(7), 36);
            CHECK.due("not one more", x.hand(1), -1);
            CHECK.due("the last day", x.told(35, 0), 0);
            CHECK.due("no day behind it", x.told(36, 0), -1);
        }
        LockedLetter y = new LockedLetter();
        CHECK.due("37 at once", y.hand(37), -1);
        CHECK.due("36 at once", y.hand(36), 0);
    }

    private static void handsThatAreRefused() {
        for (int days : new int[] {LEAST, LEAST + 1, -36, -1, 0, 32, 36, 37, MOST - 1, MOST}) {
            CHECK.refused("hand(" + days + ")", Letters::some, x -> x.hand(days), -1);
        }
        CHECK.refused("hand(0), the first one", x -> { }, x -> x.hand(0), -1);
        LockedLetter x = new LockedLetter();
        Letters.some(x);
        CHECK.due("five days are there: 31 more", x.hand(31), 2);
    }

    // ---- promise 28

    private static void fortyLooks(LockedLetter x) {
        x.hand(2);
        x.hand(3);
        for (int i = 0; i < 40; i++) {
            x.look(i % 5, i % 3);
        }
    }

    private static void fortyLooksAndNoMore() {
        LockedLetter x = new LockedLetter();
        x.hand(36);
        for (int i = 0; i < 40; i++) {
            CHECK.due("look " + i, x.look(0, 1), i);
            CHECK.due("looks", x.count(8), i + 1);
        }
        CHECK.due("by all of them", x.told(0, 40), 1);
        for (int what = 0; what <= 2; what++) {
            int seen = what;
            CHECK.refused("a 41st", WayEdgesTest::fortyLooks, y -> y.look(0, seen), -1);
        }
    }

    private static void looksOfEachDay() {
        LockedLetter x = new LockedLetter();
        x.hand(30);
        x.hand(6);
        for (int day = 0; day < 36; day++) {
            CHECK.due("look(" + day + ")", x.look(day, day % 3), day);
        }
    }

    private static void looksThatAreRefused() {
        CHECK.refused("no day yet", x -> { }, x -> x.look(0, 0), -1);
        for (int day : new int[] {LEAST, -1, 5, 6, 35, 36, MOST}) {
            CHECK.refused("look(" + day + ", 1)", Letters::some, x -> x.look(day, 1), -1);
        }
        for (int what : new int[] {LEAST, -1, 3, 4, MOST}) {
            CHECK.refused("look(0, " + what + ")", Letters::some, x -> x.look(0, what), -1);
        }
        LockedLetter x = new LockedLetter();
        Letters.some(x);
        CHECK.due("the last day", x.look(4, 0), 3);
        CHECK.due("day 5 is none yet", x.look(5, 0), -1);
        x.hand(1);
        CHECK.due("day 5", x.look(5, 0), 4);
    }

    // ---- KNOWN by n

    private static void knownByNoneToAll() {
        LockedLetter x = new LockedLetter();
        x.hand(1);
        for (int i = 0; i < 40; i++) {
            x.look(0, 0);
        }
        Check.read(x, "opens 0; doubt 1;");
        LockedLetter y = new LockedLetter();
        y.hand(1);
        Check.read(y, "opens 1000; doubt 1;");
        for (int i = 0; i < 40; i++) {
            y.look(0, 1);
        }
        for (int n = 0; n <= 40; n++) {
            CHECK.due("whole costs nothing, known by " + n, x.tale(n), 0);
            CHECK.due("a doubt for each, known by " + n, y.tale(n), n);
            CHECK.due("nothing known: open costs nothing too", x.tales(n), n == 0 ? 2 : 1);
        }
    }

    private static void noSuchN() {
        LockedLetter x = new LockedLetter();
        Letters.some(x);
        for (int n : new int[] {LEAST, -1, 4, 5, 40, 41, MOST}) {
            CHECK.due("tale(" + n + ")", x.tale(n), -1);
            CHECK.due("tales(" + n + ")", x.tales(n), -1L);
            CHECK.due("told(0, " + n + ")", x.told(0, n), -1);
            CHECK.due("opened(0, " + n + ")", x.opened(0, n), -1);
        }
        for (int n = 0; n <= 3; n++) {
            CHECK.due("tale(" + n + ")", x.tale(n) >= 0, true);
            CHECK.due("tales(" + n + ")", x.tales(n) >= 1, true);
            CHECK.due("told(0, " + n + ")", x.told(0, n) >= 0, true);
            CHECK.due("opened(0, " + n + ")", x.opened(0, n) >= 0, true);
        }
        LockedLetter y = new LockedLetter();
        fortyLooks(y);
        CHECK.due("tale(40)", y.tale(40) >= 0, true);
        CHECK.due("tale(41)", y.tale(41), -1);
        CHECK.due("tales(41)", y.tales(41), -1L);
        CHECK.due("told(0, 41)", y.told(0, 41), -1);
        CHECK.due("opened(0, 41)", y.opened(0, 41), -1);
    }

    private static void noSuchDay() {
        LockedLetter x = new LockedLetter();
        Letters.some(x);
        for (int day : new int[] {LEAST, -1, 5, 6, 35, 36, MOST}) {
            CHECK.due("told(" + day + ", 0)", x.told(day, 0), -1);
            CHECK.due("told(" + day + ", 3)", x.told(day, 3), -1);
        }
        CHECK.told("days 0 to 4", x, 3, "01112");
        CHECK.told("days 0 to 4", x, 0, "00000");
    }

    private static void noSuchHand() {
        LockedLetter x = new LockedLetter();
        Letters.some(x);
        for (int hand : new int[] {LEAST, -1, 2, 5, 6, MOST}) {
            CHECK.due("opened(" + hand + ", 0)", x.opened(hand, 0), -1);
            CHECK.due("opened(" + hand + ", 3)", x.opened(hand, 3), -1);
        }
        CHECK.due("the first", x.opened(0, 3), 1);
        CHECK.due("the last", x.opened(1, 3), 0);
    }

    private static void withoutHands() {
        LockedLetter x = new LockedLetter();
        CHECK.due("the tale of no days costs nothing", x.tale(0), 0);
        CHECK.due("there is one", x.tales(0), 1);
        CHECK.due("told", x.told(0, 0), -1);
        CHECK.due("opened", x.opened(0, 0), -1);
        CHECK.due("turned", x.turned(0), -1);
    }

    // ---- TALES

    private static LockedLetter seen(String text, int days, int... looks) {
        LockedLetter x = new LockedLetter();
        Check.read(x, text);
        x.hand(days);
        for (int i = 0; i < looks.length; i += 2) {
            CHECK.due("look(" + looks[i] + ", " + looks[i + 1] + ")", x.look(looks[i], looks[i + 1]), i / 2);
        }
        return x;
    }

    private static void wholeAheadOfDayZero() {
        LockedLetter open = seen("doubt 1000;", 1, 0, 1);
        CHECK.due("open on day 0 is one change", open.tale(1), 10);
        CHECK.told("open", open, 1, "1");
        LockedLetter shut = seen("doubt 1000;", 1, 0, 2);
        CHECK.due("shut again on day 0 can't be", shut.tale(1), 1000);
        CHECK.told("whole", shut, 1, "0");
        LockedLetter later = seen("doubt 1000;", 2, 1, 2);
        CHECK.due("shut again on day 1 is two changes", later.tale(1), 20);
        CHECK.told("open, shut again", later, 1, "12");
        LockedLetter free = seen("doubt 0; opens 0;", 1, 0, 2);
        CHECK.due("whole or open, whatever it costs", free.tales(1), 2);
        LockedLetter two = seen("doubt 0; opens 0;", 2);
        CHECK.due("00, 01, 11, 12", two.tales(0), 4);
    }

    private static void neverWholeAgain() {
        LockedLetter open = seen("doubt 1000;", 2, 0, 1, 1, 0);
        CHECK.due("open, then whole", open.tale(2), 1000);
        CHECK.told("one of both is doubted", open, 2, "00");
        LockedLetter shut = seen("doubt 500; doubt 1000;", 3, 1, 2, 1, 2, 1, 2, 2, 0);
        CHECK.due("shut again, then whole", shut.tale(4), 520);
        CHECK.told("it stays shut again", shut, 4, "122");
    }

    private static void openedAgain() {
        LockedLetter x = seen("doubt 1000;", 4, 0, 1, 1, 2, 2, 1, 3, 2);
        CHECK.due("four changes", x.tale(4), 40);
        CHECK.told("opened twice", x, 4, "1212");
        LockedLetter stay = seen("opens 0;", 3, 0, 1, 2, 2);
        CHECK.due("open or shut again between", stay.tales(2), 2);
        CHECK.told("open first", stay, 2, "112");
    }

    private static void changeByTheHandOfTheNextDay() {
        LockedLetter x = new LockedLetter();
        x.hand(2);
        x.hand(2);
        Check.read(x, "doubt 1000;");
        x.look(1, 0);
        x.look(2, 1);
        CHECK.due("whole on the first one's last day, open on the next", x.tale(2), 10);
        CHECK.due("the first hand", x.opened(0, 2), 0);
        CHECK.due("the second hand", x.opened(1, 2), 1);
        Check.read(x, "doubt 1000; opens 1 if number == 1; opens 2;");
        CHECK.due("priced by the second hand", x.tale(2), 1);
        Check.read(x, "doubt 1000; opens 1 if column == 2; opens 2;");
        CHECK.due("priced by that next day", x.tale(2), 1);
        Check.read(x, "doubt 1000; opens 3 if column == 1; opens 2;");
        CHECK.due("not by the day ahead", x.tale(2), 2);
    }

    private static void changesOnTheFirstDayAndTheLast() {
        LockedLetter first = new LockedLetter();
        LockedLetter last = new LockedLetter();
        for (int i = 0; i < 6; i++) {
            first.hand(6);
            last.hand(6);
        }
        Check.read(first, "doubt 1000; opens 3 if column == 0; opens 5;");
        first.look(0, 1);
        CHECK.due("on day 0", first.tale(1), 3);
        CHECK.due("by hand 0", first.opened(0, 1), 1);
        CHECK.due("not by hand 1", first.opened(1, 1), 0);
        Check.read(last, "doubt 1000; opens 3 if column == 35; opens 5;");
        last.look(35, 1);
        CHECK.due("on day 35", last.tale(1), 3);
        CHECK.due("by hand 5", last.opened(5, 1), 1);
        CHECK.due("not by hand 4", last.opened(4, 1), 0);
        CHECK.told("the last day alone", last, 1, "0".repeat(35) + "1");
    }

    // ---- COSTS

    private static void costsWithoutRules() {
        LockedLetter x = seen("", 2, 0, 1, 0, 1, 1, 2, 1, 2);
        CHECK.due("a doubt is 10", x.tale(1), 10);
        CHECK.due("two doubts are more than a change", x.tale(2), 10);
        CHECK.due("a doubt more", x.tale(3), 20);
        CHECK.due("a change more", x.tale(4), 20);
        Check.read(x, "harm 1; cut 1; trick 1; peep 1;");
        CHECK.due("other sorts tell nothing", x.tale(4), 20);
        Check.read(x, "opens 1 if kind == 9; doubt 1 if kind == 7;");
        CHECK.due("none holds", x.tale(4), 20);
        Check.read(x, "opens 1; doubt 1 if kind == 7;");
        CHECK.due("opens hold", x.tale(4), 2);
        Check.read(x, "opens 1 if kind == 9; doubt 1;");
        CHECK.due("doubts hold", x.tale(4), 4);
    }

    private static void costsAreHeld() {
        int[][] due = {{-1, 0}, {0, 0}, {1, 1}, {999, 999}, {1000, 1000}, {1001, 1000}, {9999, 1000}};
        for (int[] one : due) {
            String price = one[0] < 0 ? "0-1" : String.valueOf(one[0]);
            LockedLetter opens = seen("doubt 1000; opens " + price + ";", 1, 0, 1, 0, 1);
            CHECK.due("opens " + price, opens.tale(2), one[1]);
            LockedLetter doubts = seen("opens 1000; doubt " + price + ";", 1, 0, 1);
            CHECK.due("doubt " + price, doubts.tale(1), one[1]);
        }
    }

    private static void sumsAreNotHeld() {
        LockedLetter x = new LockedLetter();
        x.hand(1);
        Check.read(x, "doubt 9999; opens 9999;");
        for (int i = 0; i < 40; i++) {
            x.look(0, i % 2);
        }
        CHECK.due("twenty doubts", x.tale(40), 20000);
        CHECK.due("whole, not open, which costs one change more", x.tales(40), 1);
        CHECK.told("whole", x, 40, "0");
        LockedLetter y = new LockedLetter();
        y.hand(36);
        Check.read(y, "doubt 1000; opens 499;");
        for (int i = 0; i < 36; i++) {
            y.look(i, i % 2 == 0 ? 1 : 2);
        }
        CHECK.due("a change each day", y.tale(36), 36 * 499);
        CHECK.told("a change each day", y, 36, "12".repeat(18));
    }

    /** Prices hold for HANDS and LOOKS that come behind a question too. */
    private static void costsOfWhatComesLater() {
        LockedLetter x = seen("doubt 700 + number; opens 20 + column;", 1, 0, 0);
        CHECK.due("whole", x.tale(1), 0);
        x.hand(1);
        CHECK.due("whole", x.tale(1), 0);
        CHECK.due("one tale", x.tales(1), 1);
        x.look(1, 1);
        CHECK.due("opened on day 1", x.tale(2), 21);
        x.look(1, 0);
        CHECK.due("and doubted there, or not opened", x.tale(3), 701);
        x.read();
        CHECK.due("without rules", x.tale(3), 10);
    }

    private static void firstRuleThatHolds() {
        LockedLetter x = seen("doubt 1000; opens 7 if kind == 8; opens 5; opens 1;", 2, 1, 2);
        CHECK.due("to open 5, to shut again 7", x.tale(1), 12);
        Check.read(x, "opens 1000; doubt 9 if below == 1; doubt 8 if below == 2; doubt 2;");
        CHECK.due("a doubt 8", x.tale(1), 8);
    }

    private static void varsOfChanges() {
        LockedLetter x = new LockedLetter();
        x.hand(1);
        x.hand(2);
        Check.read(x, "doubt 1000;");
        x.look(0, 0);
        x.look(1, 1);
        x.look(2, 2);
        String[] vars = {"kind", "layers", "column", "number", "below"};
        int[] due = {7 + 8, 0, 1 + 2, 1 + 1, 0};
        for (int var = 0; var < vars.length; var++) {
            Check.read(x, "doubt 1000; opens " + vars[var] + ";");
            CHECK.due(vars[var] + " of both changes", x.tale(3), due[var]);
        }
    }

    private static void varsOfDoubts() {
        String[] vars = {"kind", "layers", "column", "number", "below"};
        int[][] due = {{9, 0, 35, 2, 1}, {9, 0, 35, 2, 2}, {9, 0, 0, 0, 1}};
        int[][] looks = {{35, 1}, {35, 2}, {0, 1}};
        for (int i = 0; i < looks.length; i++) {
            LockedLetter x = new LockedLetter();
            x.hand(10);
            x.hand(20);
            x.hand(6);
            x.look(looks[i][0], looks[i][1]);
            for (int var = 0; var < vars.length; var++) {
                Check.read(x, "opens 1000; doubt " + vars[var] + ";");
                CHECK.due(vars[var] + " of a doubt", x.tale(1), due[i][var]);
            }
        }
        LockedLetter whole = seen("opens 0 if kind == 7; opens 1000; doubt 1000 if below != 0; doubt below+4;", 1, 0, 1, 0, 0);
        CHECK.due("below of a look that saw it whole", whole.tale(2), 4);
    }

    private static void alikeLooksCountEach() {
        LockedLetter x = seen("opens 25;", 1, 0, 1, 0, 1, 0, 1);
        CHECK.due("one doubt", x.tale(1), 10);
        CHECK.due("two doubts", x.tale(2), 20);
        CHECK.due("three would be more than the change", x.tale(3), 25);
    }

    // ---- BEST TALES

    private static void leastNumbersFirst() {
        LockedLetter x = seen("doubt 1000;", 4, 3, 1);
        CHECK.due("opened on one of four days", x.tales(1), 4);
        CHECK.told("whole as long as can be", x, 1, "0001");
        LockedLetter y = seen("doubt 1000;", 4, 0, 1, 3, 2);
        CHECK.due("shut on one of three days", y.tales(2), 3);
        CHECK.told("open as long as can be", y, 2, "1112");
        LockedLetter z = seen("doubt 1000; opens 0;", 4, 0, 1, 1, 2, 3, 1);
        CHECK.due("open or shut again on day 2", z.tales(3), 2);
        CHECK.told("open on day 2", z, 3, "1211");
        LockedLetter w = seen("", 1, 0, 1);
        CHECK.due("doubted or opened", w.tales(1), 2);
        CHECK.told("whole first", w, 1, "0");
    }

    private static void asManyTalesAsThereCanBe() {
        LockedLetter x = seen("opens 0; doubt 0;", 36);
        CHECK.due("two ways each day", x.tales(0), 1L << 36);
        CHECK.due("for nothing", x.tale(0), 0);
        CHECK.told("the first", x, 0, "0".repeat(36));
        LockedLetter y = seen("opens 0;", 36, 35, 0);
        CHECK.due("whole to the end", y.tales(1), 1);
        // By what day 35 tells, the last of each two ways is free: 2 to the power of 36 in all, 1 of them whole.
        LockedLetter open = seen("opens 0;", 36, 35, 1);
        LockedLetter shut = seen("opens 0;", 36, 35, 2);
        CHECK.due("open or shut again at the end", open.tales(1) + shut.tales(1), (1L << 36) - 1);
    }

    // ---- promise 32

    private static void sureClearOrNeither() {
        LockedLetter x = new LockedLetter();
        x.hand(1);
        x.hand(1);
        Check.read(x, "doubt 1000;");
        CHECK.due("nothing seen: clear", x.opened(0, 0), 0);
        x.look(1, 1);
        CHECK.due("one of both: neither", x.opened(0, 1), 2);
        CHECK.due("one of both: neither", x.opened(1, 1), 2);
        x.look(0, 0);
        CHECK.due("clear", x.opened(0, 2), 0);
        CHECK.due("sure", x.opened(1, 2), 1);
        CHECK.due("as known then", x.opened(1, 1), 2);
        CHECK.due("as known then", x.opened(1, 0), 0);
        Check.read(x, "");
        CHECK.due("a doubt costs as much as a change", x.opened(1, 2), 2);
    }

    private static void openedOnOneOfItsDays() {
        LockedLetter x = new LockedLetter();
        x.hand(3);
        x.hand(1);
        x.hand(2);
        Check.read(x, "doubt 1000;");
        x.look(2, 1);
        CHECK.due("on one of three days, whichever", x.tales(1), 3);
        CHECK.due("sure", x.opened(0, 1), 1);
        x.look(3, 2);
        CHECK.due("to shut it is not to open it", x.opened(1, 2), 0);
        x.look(5, 1);
        CHECK.due("opened again", x.opened(2, 3), 1);
        CHECK.due("still sure", x.opened(0, 3), 1);
        LockedLetter y = new LockedLetter();
        y.hand(1);
        y.hand(1);
        Check.read(y, "doubt 1000;");
        y.look(0, 1);
        y.look(1, 1);
        CHECK.due("it was open ahead of its days", y.opened(1, 2), 0);
    }

    // ---- promise 33

    private static void turnedFromALookOn() {
        LockedLetter x = seen("doubt 30;", 2, 0, 0, 1, 1, 1, 1, 0, 1, 0, 1);
        CHECK.told("known by 0", x, 0, "00");
        CHECK.told("known by 1", x, 1, "00");
        CHECK.told("known by 2", x, 2, "01");
        CHECK.told("known by 3", x, 3, "01");
        CHECK.told("known by 4", x, 4, "01");
        CHECK.told("known by 5", x, 5, "11");
        int[] due = {1, 1, 4, 4, 4};
        for (int from = 0; from < 5; from++) {
            CHECK.due("turned(" + from + ")", x.turned(from), due[from]);
        }
        LockedLetter y = seen("doubt 30;", 1, 0, 1);
        CHECK.due("the very first look", y.turned(0), 0);
        LockedLetter z = new LockedLetter();
        z.hand(36);
        Check.read(z, "doubt 30;");
        for (int i = 0; i < 39; i++) {
            z.look(i % 35, 0);
        }
        CHECK.due("none of 39", z.turned(0), -1);
        z.look(35, 1);
        CHECK.due("the last of 40", z.turned(0), 39);
        CHECK.due("from the last on", z.turned(39), 39);
    }

    private static void turnedByNone() {
        LockedLetter x = seen("doubt 30;", 2, 0, 0, 1, 0);
        CHECK.due("none", x.turned(0), -1);
        CHECK.due("none", x.turned(1), -1);
        LockedLetter y = seen("", 1, 0, 1, 0, 0);
        CHECK.due("another cost, more tales, but the first is as it was", y.turned(0), -1);
    }

    private static void turnedOfNoSuchLook() {
        LockedLetter x = new LockedLetter();
        x.hand(1);
        for (int from : new int[] {LEAST, -1, 0, 1, MOST}) {
            CHECK.due("turned(" + from + ") without looks", x.turned(from), -1);
        }
        LockedLetter y = seen("doubt 30;", 1, 0, 1);
        for (int from : new int[] {LEAST, -1, 1, 2, 39, 40, MOST}) {
            CHECK.due("turned(" + from + ") of one", y.turned(from), -1);
        }
        LockedLetter z = new LockedLetter();
        fortyLooks(z);
        CHECK.due("turned(40) of forty", z.turned(40), -1);
    }

    // ---- promise 34

    private static void counts(String what, LockedLetter x, int... due) {
        for (int i = 0; i < due.length; i++) {
            CHECK.due(what + ": count(" + i + ")", x.count(i), due[i]);
        }
    }

    private static void countsOfNothing() {
        counts("new", new LockedLetter(), 4, 4, 0, 0, 0, 0, 0, 0, 0);
        counts("two parts", Check.of(2), 2, 2, 0, 0, 0, 0, 0, 0, 0);
    }

    private static void countsOfAFullHouse() {
        LockedLetter x = Check.of(8);
        Check.read(x, "trick 1000;".repeat(16));
        for (int i = 0; i < 16; i++) {
            x.soil();
        }
        for (int i = 0; i < 100; i++) {
            x.feed(i, i, i, i, i);
        }
        for (int i = 0; i < 6; i++) {
            x.hand(6);
        }
        for (int i = 0; i < 40; i++) {
            x.look(i % 36, 0);
        }
        counts("full", x, 8, 8, 16, 16, 2000, 16000, 6, 36, 40);
        LockedLetter y = Check.of(2);
        y.fold(1, true, true);
        counts("one column", y, 2, 1, 1, 0, 0, 0, 0, 0, 0);
    }

    private static void noSuchCount() {
        LockedLetter x = new LockedLetter();
        Letters.some(x);
        for (int what : new int[] {LEAST, -2, -1, 9, 10, MOST}) {
            CHECK.due("count(" + what + ")", x.count(what), -1);
        }
        counts("some", x, 5, 3, 5, 6, Letters.TAPE.length(), 2 + 4 + 5 + 6 + 7, 2, 5, 3);
    }

    private static void oddQuestionsChangeNothing() {
        for (int odd : new int[] {LEAST, -1, 0, 1, 2, 7, 8, 9, 41, MOST}) {
            CHECK.refused("questions with " + odd, Letters::some, x -> {
                x.part(odd, 0);
                x.part(0, odd);
                x.mark(odd);
                x.layers(odd);
                x.at(odd, 0);
                x.at(0, odd);
                x.harm(odd);
                x.by(odd);
                x.ease(odd);
                x.undone(odd);
                x.row(odd);
                x.tale(odd);
                x.tales(odd);
                x.told(odd, 0);
                x.told(0, odd);
                x.opened(odd, 0);
                x.opened(0, odd);
                x.turned(odd);
                return x.count(odd < 0 || odd > 8 ? odd : -1);
            }, -1);
        }
    }
}
