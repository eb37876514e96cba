/** Promises 1 to 5: a new object, the tape, and the FAULTS of texts. */
public final class TapeTest {
    private static final Check CHECK = new Check("TapeTest");

    public static void main(String[] args) {
        newObject();
        feeding();
        takingBack();
        reading();
        goodTexts();
        syntax();
        tooMany();
        CHECK.end();
    }

    private static void newObject() {
        LockedLetter x = new LockedLetter();
        int[] counts = {4, 4, 0, 0, 0, 0, 0, 0, 0};
        for (int what = 0; what < counts.length; what++) {
            CHECK.due("new count(" + what + ")", x.count(what), counts[what]);
        }
        for (int p = 0; p < 4; p++) {
            CHECK.due("new part column", x.part(p, 0), p);
            CHECK.due("new part layer", x.part(p, 1), 0);
            CHECK.due("new part up", x.part(p, 2), 1);
            CHECK.due("new part slits", x.part(p, 3), 0);
            CHECK.due("new part wax", x.part(p, 4), 0);
            CHECK.due("new part read", x.part(p, 5), 1);
            CHECK.due("new part dirt", x.part(p, 6) + x.part(p, 7), 0);
            CHECK.due("new layers", x.layers(p), 1);
        }
        CHECK.due("new place", x.place(), LockedLetter.NONE);
        CHECK.due("new undo", x.undo(), -1);
        CHECK.due("new rows: nothing is known", x.rows(), 6850);
        CHECK.due("new tale", x.tale(0), 0);
        CHECK.due("NONE", LockedLetter.NONE, -1);
    }

    private static void feeding() {
        LockedLetter x = new LockedLetter();
        for (int i = 1; i <= 100; i++) {
            CHECK.due("feed " + i, x.feed(0x20202020, 0x20202020, 0x20202020, 0x20202020, 0x20202020), 20 * i);
        }
        CHECK.due("feed 101", x.feed(0, 0, 0, 0, 0), -1);
        CHECK.due("count(4) full", x.count(4), 2000);
        CHECK.due("back(19)", x.back(19), 1981);
        CHECK.due("feed beyond", x.feed(0, 0, 0, 0, 0), -1);
        CHECK.due("count(4) still", x.count(4), 1981);
        CHECK.due("back(1)", x.back(1), 1980);
        CHECK.due("feed fits", x.feed(0x20202020, 0x20202020, 0x20202020, 0x20202020, 0x20202020), 2000);
        CHECK.due("read of blanks", x.read(), 0);
        CHECK.due("the highest byte is the first", x.feed(0x68617263, 0x75742031, 0x3b202020, 0x20202020, 0x20202020), 20);
        CHECK.due("back to nothing", x.back(20), 0);
        x.feed(0x63757420, 0x39203b20, 0x63757420, 0x383b2020, 0x20202020);
        CHECK.due("read fed words", x.read(), 0);
        CHECK.due("two rules", x.count(3), 2);
    }

    private static void takingBack() {
        LockedLetter x = new LockedLetter();
        CHECK.due("back(0) of nothing", x.back(0), 0);
        CHECK.due("back(1) of nothing", x.back(1), -1);
        CHECK.due("back(-1)", x.back(-1), -1);
        x.feed(1, 2, 3, 4, 5);
        CHECK.due("back(21)", x.back(21), -1);
        CHECK.due("back(-1) of twenty", x.back(-1), -1);
        CHECK.due("back least", x.back(Integer.MIN_VALUE), -1);
        CHECK.due("back most", x.back(Integer.MAX_VALUE), -1);
        CHECK.due("count(4)", x.count(4), 20);
        CHECK.due("back(5)", x.back(5), 15);
        CHECK.due("back(15)", x.back(15), 0);
    }

    private static void reading() {
        LockedLetter x = new LockedLetter();
        CHECK.due("good text", Check.read(x, "harm 5; cut 7;"), 0);
        CHECK.due("tape is empty", x.count(4), 0);
        CHECK.due("place none", x.place(), -1);
        x.fold(2, true, true);
        CHECK.due("harm by the text", x.harm(0), 5);
        CHECK.due("bad text", Check.read(x, "cut 1; harm"), 1);
        CHECK.due("place of the end", x.place(), 11);
        CHECK.due("tape is empty behind a fault", x.count(4), 0);
        CHECK.due("a fault changes nothing", x.count(3), 2);
        CHECK.due("harm as before", x.harm(0), 5);
        CHECK.due("room fault", Check.read(x, "harm (((((((1)))))));"), 2);
        CHECK.due("place of the room fault", x.place(), 11);
        CHECK.due("harm as before", x.harm(0), 5);
        CHECK.due("next text", Check.read(x, "trick 3;"), 0);
        CHECK.due("place is none again", x.place(), -1);
        CHECK.due("in place of the one ahead", x.count(3), 1);
        CHECK.due("harm by the next", x.harm(0), 3);
        CHECK.due("empty text", x.read(), 0);
        CHECK.due("no rules", x.count(3), 0);
        CHECK.due("usual harm", x.harm(0), 0);
        Check.read(x, "harm 1 if (2+3*");
        CHECK.due("a text that breaks off leaves nothing waiting", Check.read(x, "harm 6 if 1 == 1;"), 0);
        CHECK.due("harm by the next", x.harm(0), 6);
        takenBack(x, "harm 12;", 2, 6);
        takenBack(x, "harm kind;", 2, 5);
        takenBack(x, "harm 1 if kind <= 2;", 4, 16);
        takenBack(x, "harm 1;  cut", 3, -1);
        CHECK.due("rules stay with a new sheet", Check.read(x, "cut 4;"), 0);
        x.sheet(3);
        CHECK.due("count(3) behind sheet", x.count(3), 1);
    }

    /** Bytes that went back are no longer read. */
    private static void takenBack(LockedLetter x, String text, int back, int place) {
        Check.feed(x, text);
        CHECK.due("back", x.back(back), text.length() - back);
        CHECK.due("read of '" + text + "' less " + back, x.read(), place == -1 ? 0 : 1);
        CHECK.due("place", x.place(), place);
    }

    private static void goodTexts() {
        String[] good = {
            "", " \t\r\n ", "harm 5;", "harm5;", "\tharm\n5\r;", "harm 0000;cut 9999;", "harm kind+layers-column*number+below;",
            "trick 1 if kind==1;", "peep 1 if kind!=1and 1<2or 2<=3;", "opens 1*(2+3);doubt(1);", "harm ((((((1))))));",
            "harm ((((((1))))))+((((((1))))));", "harm 1 if (1)==(2)*3 and 1<2 or 3!=4 and 5<=6;", "harm 1 if 1<2;"};
        for (String text : good) {
            CHECK.fault(text, 0, -1);
        }
    }

    private static void syntax() {
        CHECK.fault("harm 5", 1, 6);
        CHECK.fault("harm 5  ", 1, 8);
        CHECK.fault("harm", 1, 4);
        CHECK.fault("harm;", 1, 4);
        CHECK.fault("harms 5;", 1, 0);
        CHECK.fault(" Harm 5;", 1, 1);
        CHECK.fault("har m 5;", 1, 0);
        CHECK.fault("if 1;", 1, 0);
        CHECK.fault("5;", 1, 0);
        CHECK.fault(";", 1, 0);
        CHECK.fault("harm 12345;", 1, 5);
        CHECK.fault("harm 1 2;", 1, 7);
        CHECK.fault("harm 12 kind;", 1, 8);
        CHECK.fault("harm 12kind;", 1, 7);
        CHECK.fault("harm kindkind;", 1, 5);
        CHECK.fault("harm abcdefghi;", 1, 5);
        CHECK.fault("harm rule;", 1, 5);
        CHECK.fault("harm -1;", 1, 5);
        CHECK.fault("harm 1+;", 1, 7);
        CHECK.fault("harm 1++1;", 1, 7);
        CHECK.fault("harm (1;", 1, 7);
        CHECK.fault("harm 1);", 1, 6);
        CHECK.fault("harm ();", 1, 6);
        CHECK.fault("harm 1;;", 1, 7);
        CHECK.fault("harm 1 or 2;", 1, 7);
        CHECK.fault("harm 1 == 2;", 1, 7);
        CHECK.fault("harm 1 if;", 1, 9);
        CHECK.fault("harm 1 if 1;", 1, 11);
        CHECK.fault("harm 1 if 1 and 2;", 1, 12);
        CHECK.fault("harm 1 if 1 == ;", 1, 15);
        CHECK.fault("harm 1 if (1 == 1);", 1, 13);
        CHECK.fault("harm 1 if 1 == 1 == 1;", 1, 17);
        CHECK.fault("harm 1 if 1 == 1 and;", 1, 20);
        CHECK.fault("harm 1 if 1 == 1 if 1 == 1;", 1, 17);
        CHECK.fault("harm 1 if 1 == 1)", 1, 16);
        CHECK.fault("harm 1 if kind = 1;", 1, 15);
        CHECK.fault("harm 1 if kind ! = 1;", 1, 15);
        CHECK.fault("harm 1 if kind < = 1;", 1, 17);
        CHECK.fault("harm 1 if kind === 1;", 1, 17);
        CHECK.fault("harm 1 if kind > 1;", 1, 15);
        CHECK.fault("harm 1 if kind =", 1, 15);
        CHECK.fault("harm 1 if kind !", 1, 15);
        CHECK.fault("harm 1 if kind <", 1, 16);
        CHECK.fault("harm\f1;", 1, 4);
        CHECK.fault("harm\u000b1;", 1, 4);
        CHECK.fault("harm 1;\u0000", 1, 7);
        CHECK.fault("harm \u00e9;", 1, 5);
        CHECK.fault("harm 1;\u00ff", 1, 7);
        CHECK.fault("cut 1; harm 1 / 2;", 1, 14);
        CHECK.fault("farm 1;", 1, 0);
        CHECK.fault("harmz 1;", 1, 0);
        CHECK.fault("harma 1;", 1, 0);
        CHECK.fault("harm rumber;", 1, 5);
    }

    private static void tooMany() {
        CHECK.fault("harm (((((((1)))))));", 2, 11);
        CHECK.fault("harm 1+((((((1+(2)))))));", 2, 15);
        CHECK.fault("harm ((((((1(", 1, 12);
        String sixteen = "cut 1;".repeat(16);
        CHECK.fault(sixteen, 0, -1);
        CHECK.fault(sixteen + "  ", 0, -1);
        CHECK.fault(sixteen + " cut 1;", 2, 97);
        CHECK.fault(sixteen + "cut", 2, 96);
        CHECK.fault(sixteen + "cuts 1;", 1, 96);
        CHECK.fault(sixteen + "kind", 1, 96);
        // 3 and 397 TOKENS, and one more.
        String full = "cut 1;harm 1" + "+1".repeat(197) + ";";
        CHECK.fault(full, 0, -1);
        CHECK.fault(full + "\n ", 0, -1);
        CHECK.fault(full + " cut 1;", 2, full.length() + 1);
        CHECK.fault(full + "+", 1, full.length());
        CHECK.fault(full + "#", 1, full.length());
        CHECK.fault(full + "cutcutcut", 1, full.length());
        String open = "harm 1" + "+1".repeat(199);
        CHECK.fault(open, 1, open.length());
        CHECK.fault(open + ";", 2, open.length());
        CHECK.fault(open + ")", 1, open.length());
        CHECK.fault(open + "1", 1, open.length() + 1);
    }
}
