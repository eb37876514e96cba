/** Promises 27 to 33: HANDS, LOOKS and TALES. */
public final class WayTest {
    private static final Check CHECK = new Check("WayTest");

    public static void main(String[] args) {
        hands();
        looks();
        noDays();
        usualCosts();
        trustedLook();
        shutAgain();
        costsByRules();
        manyTales();
        guilt();
        turning();
        knownByAndBy();
        CHECK.end();
    }

    private static void hands() {
        LockedLetter x = new LockedLetter();
        for (int days : new int[] {0, -1, 37, Integer.MAX_VALUE, Integer.MIN_VALUE}) {
            CHECK.due("hand(" + days + ")", x.hand(days), -1);
        }
        CHECK.due("hand(1)", x.hand(1), 0);
        CHECK.due("hand(36) is too many", x.hand(36), -1);
        CHECK.due("hand most", x.hand(Integer.MAX_VALUE), -1);
        CHECK.due("hand(34)", x.hand(34), 1);
        CHECK.due("hand(2)", x.hand(2), -1);
        CHECK.due("hand(1) to the last day", x.hand(1), 2);
        CHECK.due("no day is left", x.hand(1), -1);
        CHECK.due("hands", x.count(6), 3);
        CHECK.due("days", x.count(7), 36);
        LockedLetter y = new LockedLetter();
        for (int i = 0; i < 6; i++) {
            CHECK.due("hand " + i, y.hand(2), i);
        }
        CHECK.due("a 7th", y.hand(2), -1);
        CHECK.due("days", y.count(7), 12);
        LockedLetter z = new LockedLetter();
        CHECK.due("hand(36)", z.hand(36), 0);
    }

    private static void looks() {
        LockedLetter x = new LockedLetter();
        CHECK.due("no day yet", x.look(0, 0), -1);
        x.hand(2);
        CHECK.due("day 2", x.look(2, 0), -1);
        CHECK.due("day -1", x.look(-1, 0), -1);
        CHECK.due("what 3", x.look(0, 3), -1);
        CHECK.due("what -1", x.look(0, -1), -1);
        CHECK.due("what most", x.look(0, Integer.MAX_VALUE), -1);
        CHECK.due("day most", x.look(Integer.MAX_VALUE, 0), -1);
        CHECK.due("no looks", x.count(8), 0);
        for (int i = 0; i < 40; i++) {
            CHECK.due("look " + i, x.look(i % 2, i % 3), i);
        }
        CHECK.due("a 41st", x.look(0, 0), -1);
        CHECK.due("looks", x.count(8), 40);
        CHECK.due("tale(40)", x.tale(40) >= 0, true);
        CHECK.due("tale(41)", x.tale(41), -1);
        CHECK.due("no look turns it from the last on", x.turned(39), -1);
    }

    private static void noDays() {
        LockedLetter x = new LockedLetter();
        CHECK.due("the empty tale", x.tale(0), 0);
        CHECK.due("is one", x.tales(0), 1);
        CHECK.due("tells of no day", x.told(0, 0), -1);
        CHECK.due("no hand", x.opened(0, 0), -1);
        CHECK.due("no look", x.turned(0), -1);
        CHECK.due("tale(1)", x.tale(1), -1);
        CHECK.due("tales(1)", x.tales(1), -1);
        CHECK.due("tale(-1)", x.tale(-1), -1);
        CHECK.due("tales(-1)", x.tales(-1), -1);
    }

    private static void usualCosts() {
        LockedLetter x = new LockedLetter();
        x.hand(3);
        x.hand(2);
        CHECK.due("nothing seen", x.tale(0), 0);
        CHECK.due("one tale", x.tales(0), 1);
        CHECK.told("whole", x, 0, "00000");
        x.look(1, 1);
        CHECK.due("a doubt, or an opening", x.tale(1), 10);
        CHECK.due("doubt, opened on day 0, on day 1", x.tales(1), 3);
        CHECK.told("whole comes first", x, 1, "00000");
        CHECK.due("perhaps", x.opened(0, 1), 2);
        CHECK.due("never", x.opened(1, 1), 0);
        CHECK.due("not known yet", x.opened(0, 0), 0);
        CHECK.due("no such hand", x.opened(2, 1), -1);
        CHECK.due("no hand below 0", x.opened(-1, 1), -1);
        CHECK.due("no such n", x.opened(0, 2), -1);
        CHECK.due("no n below 0", x.opened(0, -1), -1);
        CHECK.due("told of no such n", x.told(0, 2), -1);
        CHECK.due("told of n below 0", x.told(0, -1), -1);
        x.look(1, 1);
        CHECK.due("two looks: it was opened", x.tale(2), 10);
        CHECK.due("on day 0 or 1", x.tales(2), 2);
        CHECK.told("as late as can be", x, 2, "01111");
        CHECK.due("for sure", x.opened(0, 2), 1);
        CHECK.due("never", x.opened(1, 2), 0);
        CHECK.due("the first look alone turns nothing", x.turned(0), 1);
        CHECK.due("turned(1)", x.turned(1), 1);
        CHECK.due("turned(2)", x.turned(2), -1);
        CHECK.due("turned(-1)", x.turned(-1), -1);
    }

    private static void trustedLook() {
        LockedLetter x = new LockedLetter();
        x.hand(2);
        x.hand(2);
        Check.read(x, "doubt 100;");
        x.look(2, 1);
        x.look(1, 0);
        CHECK.due("opened on day 2", x.tale(2), 10);
        CHECK.due("one tale", x.tales(2), 1);
        CHECK.told("opened", x, 2, "0011");
        CHECK.due("by the second hand", x.opened(1, 2), 1);
        CHECK.due("not by the first", x.opened(0, 2), 0);
        CHECK.due("as known by 1: perhaps", x.opened(0, 1), 2);
        CHECK.due("as known by 1: perhaps", x.opened(1, 1), 2);
        CHECK.due("three days", x.tales(1), 3);
    }

    private static void shutAgain() {
        LockedLetter x = new LockedLetter();
        x.hand(4);
        Check.read(x, "doubt 1000;");
        x.look(0, 2);
        CHECK.due("it can't be shut again on day 0", x.tale(1), 1000);
        CHECK.told("so that is doubted", x, 1, "0000");
        x.look(3, 2);
        CHECK.due("opened and shut", x.tale(2), 1020);
        CHECK.due("on two of four days", x.tales(2), 6);
        CHECK.told("late", x, 2, "0012");
        x.look(3, 0);
        CHECK.due("once whole, never again behind", x.tale(3), 2000);
        CHECK.told("whole", x, 3, "0000");
        LockedLetter y = new LockedLetter();
        y.hand(6);
        Check.read(y, "doubt 1000;");
        y.look(1, 1);
        y.look(2, 2);
        y.look(4, 1);
        y.look(5, 2);
        CHECK.due("opened twice", y.tale(4), 40);
        CHECK.told("opened twice", y, 4, "012112");
        CHECK.due("two days, twice", y.tales(4), 4);
    }

    private static void costsByRules() {
        LockedLetter x = new LockedLetter();
        x.hand(2);
        x.hand(3);
        x.look(4, 2);
        x.look(0, 0);
        Check.read(x, "doubt 500 if kind == 9 and layers == 0 and column == 4 and number == 1 and below == 2;"
            + "opens 3 if kind == 7 and layers == 0 and column == 3 and number == 1 and below == 0;"
            + "opens 4 if kind == 8 and layers == 0 and column == 4 and number == 1 and below == 0;");
        CHECK.due("each var as due", x.tale(2), 7);
        CHECK.told("on these days", x, 2, "00012");
        CHECK.due("one tale", x.tales(2), 1);
        Check.read(x, "doubt 500; opens 100*number+column if kind == 7; opens 50-column;");
        CHECK.due("the cheapest days", x.tale(2), 1 + 46);
        CHECK.told("by the first hand", x, 2, "01112");
        CHECK.due("the first hand", x.opened(0, 2), 1);
        Check.read(x, "doubt 9999; opens 1-2;");
        CHECK.due("held", x.tale(2), 0);
        Check.read(x, "doubt 9999; opens 9999; opens 1;");
        CHECK.due("a doubt and an opening cost alike", x.tale(1), 1000);
        Check.read(x, "harm 1; cut 1; trick 1; peep 1;");
        CHECK.due("other sorts do not count", x.tale(1), 10);
    }

    private static void manyTales() {
        LockedLetter x = new LockedLetter();
        x.hand(36);
        x.look(35, 2);
        Check.read(x, "opens 0; doubt 0;");
        CHECK.due("two ways a day", x.tales(1), 1L << 36);
        CHECK.due("all for nothing", x.tale(1), 0);
        CHECK.due("neither", x.opened(0, 1), 2);
        CHECK.told("the first of all", x, 1, "0".repeat(36));
        Check.read(x, "opens 0;");
        CHECK.due("those that end shut again", x.tales(1) > Integer.MAX_VALUE, true);
    }

    private static void guilt() {
        LockedLetter x = new LockedLetter();
        x.hand(1);
        x.hand(1);
        x.hand(1);
        Check.read(x, "doubt 100;");
        x.look(0, 1);
        x.look(1, 2);
        x.look(2, 1);
        CHECK.due("the first", x.opened(0, 3), 1);
        CHECK.due("the second shut it", x.opened(1, 3), 0);
        CHECK.due("the third too", x.opened(2, 3), 1);
        CHECK.due("by two looks: not the third", x.opened(2, 2), 0);
        CHECK.due("by one look", x.opened(0, 1), 1);
        CHECK.due("by none", x.opened(0, 0), 0);
    }

    private static void turning() {
        LockedLetter x = new LockedLetter();
        x.hand(4);
        Check.read(x, "doubt 30;");
        x.look(0, 0);
        x.look(3, 0);
        x.look(2, 1);
        x.look(2, 1);
        x.look(1, 1);
        x.look(3, 0);
        // whole, whole; 30 for the doubt or 10 + 30 for opening; then 60 or 40: 0011.
        CHECK.told("known by 3", x, 3, "0000");
        CHECK.told("known by 4", x, 4, "0011");
        CHECK.told("known by 5", x, 5, "0111");
        CHECK.due("from 0", x.turned(0), 3);
        CHECK.due("from 3", x.turned(3), 3);
        CHECK.due("from 4", x.turned(4), 4);
        CHECK.due("from 5", x.turned(5), -1);
        CHECK.due("from 6", x.turned(6), -1);
        CHECK.due("from -1", x.turned(-1), -1);
        CHECK.due("from most", x.turned(Integer.MAX_VALUE), -1);
    }

    private static void knownByAndBy() {
        LockedLetter x = new LockedLetter();
        x.hand(2);
        x.look(1, 1);
        x.look(1, 1);
        CHECK.due("opened", x.tale(2), 10);
        CHECK.told("two days", x, 2, "01");
        x.hand(1);
        CHECK.told("a hand more, a day more", x, 2, "011");
        Check.read(x, "doubt 1;");
        CHECK.due("another text", x.tale(2), 2);
        Check.read(x, "doubt");
        CHECK.due("a text with a fault", x.tale(2), 2);
        x.look(2, 2);
        CHECK.due("a look more", x.tale(3), 3);
        CHECK.due("and not known", x.tale(2), 2);
        x.sheet(5);
        CHECK.due("they stay with a new sheet", x.tale(3), 3);
    }
}
