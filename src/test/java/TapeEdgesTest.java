/** The edges that the document names in promises 1 to 5 and in section III's texts, a method for each sentence. */
public final class TapeEdgesTest {
    private static final Check CHECK = new Check("TapeEdgesTest");
    private static final int BLANK = 0x20202020;
    private static final String[] SORTS = {"harm", "cut", "trick", "peep", "opens", "doubt"};
    private static final String[] VARS = {"kind", "layers", "column", "number", "below"};

    public static void main(String[] args) {
        newObjectIsFlatAndEmpty();
        newObjectsShareNothing();
        feedPutsTheHighestByteFirst();
        feedComesBehindTheTape();
        lastFeedThatIsTaken();
        feedBeyondTheTape();
        backOfSome();
        backThatIsRefused();
        readEmptiesTheTape();
        readOfAFullTape();
        readOfNothing();
        placeWithoutFault();
        placeOfTheLatestRead();
        placeAtBothEnds();
        faultChangesNothing();
        textTakesThePlaceOfTheOneAhead();
        anyByteBehindAWord();
        anyByteBehindAnInt();
        anyByteBehindARule();
        wordsOfTheGrammar();
        wordsTooLong();
        longestTokens();
        ints();
        signs();
        rulesFromNoneOn();
        partsOfARule();
        faultAtTheEnd();
        firstFaultByPlace();
        leastFaultOfOnePlace();
        tokens();
        rules();
        parentheses();
        CHECK.end();
    }

    // ---- promise 1

    private static void newObjectIsFlatAndEmpty() {
        LockedLetter x = new LockedLetter();
        CHECK.packet("four parts, flat", x, "a", "b", "c", "d");
        CHECK.due("no acts", x.count(2), 0);
        CHECK.due("no rules", x.count(3), 0);
        CHECK.due("an empty tape", x.count(4), 0);
        CHECK.due("no hands", x.count(6), 0);
        CHECK.due("no looks", x.count(8), 0);
        CHECK.due("no such act", x.harm(0), -1);
        CHECK.marks("no marks", x, 0, 0, 0);
        CHECK.dirt("no dirt", x, 0, 0, 0, 0, 0, 0, 0, 0);
        CHECK.due("no finds: all rows fit", x.rows(), 6850);
        CHECK.alike("a new object is as one with sheet(4)", Answers.of(new LockedLetter()), Answers.of(Check.of(4)));
    }

    private static void newObjectsShareNothing() {
        LockedLetter x = new LockedLetter();
        LockedLetter y = new LockedLetter();
        Letters.some(x);
        x.finds();
        CHECK.alike("another object's calls change nothing here", Answers.of(y), Answers.of(new LockedLetter()));
    }

    // ---- promise 2

    private static void feedPutsTheHighestByteFirst() {
        for (int i = 0; i < 20; i++) {
            LockedLetter x = new LockedLetter();
            int[] words = {BLANK, BLANK, BLANK, BLANK, BLANK};
            // Alone in its word with its highest bit set, the byte tells of sign and place both.
            words[i / 4] = BLANK & ~(0xff << 24 - 8 * (i % 4)) | 0xe9 << 24 - 8 * (i % 4);
            CHECK.due("feed", x.feed(words[0], words[1], words[2], words[3], words[4]), 20);
            CHECK.due("read with byte " + i + " odd", x.read(), 1);
            CHECK.due("place of byte " + i, x.place(), i);
        }
    }

    private static void feedComesBehindTheTape() {
        LockedLetter x = new LockedLetter();
        CHECK.due("twenty", x.feed(BLANK, BLANK, BLANK, BLANK, BLANK), 20);
        CHECK.due("forty", x.feed(0x23232323, 0x23232323, 0x23232323, 0x23232323, 0x23232323), 40);
        CHECK.due("read", x.read(), 1);
        CHECK.due("the first of the second twenty", x.place(), 20);
    }

    private static int feedBlanks(LockedLetter x) {
        return x.feed(BLANK, BLANK, BLANK, BLANK, BLANK);
    }

    /** A tape of n blanks. */
    private static void fill(LockedLetter x, int n) {
        int fed = 0;
        while (fed < n) {
            fed = feedBlanks(x);
        }
        x.back(fed - n);
    }

    private static void lastFeedThatIsTaken() {
        for (int n : new int[] {0, 1, 19, 1960, 1979, 1980}) {
            LockedLetter x = new LockedLetter();
            fill(x, n);
            CHECK.due("feed to " + n, feedBlanks(x), n + 20);
            CHECK.due("count(4)", x.count(4), n + 20);
        }
    }

    private static void feedBeyondTheTape() {
        for (int n : new int[] {1981, 1982, 1999, 2000}) {
            CHECK.refused("feed to " + n, x -> fill(x, n), x -> x.feed(0x23232323, 0x23232323, 0x23232323, 0x23232323, 0x23232323), -1);
        }
    }

    // ---- promise 3

    private static void backOfSome() {
        LockedLetter x = new LockedLetter();
        CHECK.due("back(0) of nothing", x.back(0), 0);
        Check.feed(x, "cut 12; trick 3;");
        CHECK.due("back(0) takes nothing", x.back(0), 16);
        CHECK.due("back(1)", x.back(1), 15);
        CHECK.due("back to the first text", x.back(8), 7);
        CHECK.due("the last bytes went", x.read(), 0);
        CHECK.due("one rule is left", x.count(3), 1);
        Check.feed(x, "cut 12; trick 3;");
        CHECK.due("back of all", x.back(16), 0);
        CHECK.due("back(1) of nothing", x.back(1), -1);
        shortened("harm 1 if 1<=", 1, 12);
        shortened("harm 1234;", 2, 8);
        shortened("harm kind;", 2, 5);
        shortened("harm 1;  ", 4, 5);
        Check.feed(x, "cut 1");
        CHECK.due("what is fed then comes behind what stayed", x.feed(0x3b202020, BLANK, BLANK, BLANK, BLANK), 25);
        CHECK.due("read", x.read(), 0);
        LockedLetter y = new LockedLetter();
        fill(y, 2000);
        CHECK.due("back(2000) of a full tape", y.back(2000), 0);
    }

    /** What went back still lies behind the end, but is no part of a TOKEN there. */
    private static void shortened(String text, int n, int place) {
        LockedLetter x = new LockedLetter();
        Check.feed(x, text);
        CHECK.due("back(" + n + ")", x.back(n), text.length() - n);
        CHECK.due("read of '" + text + "' less " + n, x.read(), 1);
        CHECK.due("place", x.place(), place);
    }

    private static void backThatIsRefused() {
        for (int n : new int[] {-1, -2, -20, Integer.MIN_VALUE}) {
            CHECK.refused("back(" + n + ")", Letters::some, x -> x.back(n), -1);
        }
        int tape = Letters.TAPE.length();
        for (int n : new int[] {tape + 1, tape + 20, 2001, Integer.MAX_VALUE}) {
            CHECK.refused("back(" + n + ")", Letters::some, x -> x.back(n), -1);
        }
        CHECK.refused("back(1) of nothing", x -> { }, x -> x.back(1), -1);
    }

    // ---- promises 4 and 5

    private static void readEmptiesTheTape() {
        LockedLetter x = new LockedLetter();
        Check.feed(x, "harm 1;");
        CHECK.due("read", x.read(), 0);
        CHECK.due("empty behind a good text", x.count(4), 0);
        Check.feed(x, "harm #;");
        CHECK.due("read", x.read(), 1);
        CHECK.due("empty behind syntax", x.count(4), 0);
        Check.feed(x, "harm (((((((1");
        CHECK.due("read", x.read(), 2);
        CHECK.due("empty behind room", x.count(4), 0);
        fill(x, 2000);
        CHECK.due("a full tape", x.count(4), 2000);
        CHECK.due("read", x.read(), 0);
        CHECK.due("room for a feed again", feedBlanks(x), 20);
    }

    private static void readOfAFullTape() {
        String blanks = " ".repeat(1995);
        CHECK.fault(blanks + "cut1;", 0, -1);
        CHECK.fault(blanks + "cut1#", 1, 1999);
        CHECK.fault("cut1;" + blanks, 0, -1);
        CHECK.fault("cut1 " + blanks, 1, 2000);
        CHECK.fault(blanks + " cut1", 1, 2000);
        CHECK.fault(blanks + "  cut", 1, 2000);
        CHECK.fault(blanks + "cut1+", 1, 2000);
        CHECK.fault(blanks + "cut1<", 1, 1999);
        CHECK.fault(blanks + "cut1=", 1, 1999);
        CHECK.fault("cut1if1 " + " ".repeat(1991) + "<", 1, 2000);
        CHECK.fault("cut1if1 " + " ".repeat(1991) + "=", 1, 1999);
        CHECK.fault("cut1if1 " + " ".repeat(1990) + "==", 1, 2000);
        LockedLetter x = new LockedLetter();
        Check.read(x, blanks + "cut1;");
        CHECK.due("its one rule", x.count(3), 1);
    }

    private static void readOfNothing() {
        LockedLetter x = new LockedLetter();
        CHECK.due("read of an empty tape", x.read(), 0);
        CHECK.due("no fault", x.place(), -1);
        Check.read(x, "harm 3;");
        x.fold(1, true, true);
        CHECK.due("harm by the rule", x.harm(0), 3);
        CHECK.due("read of an empty tape", x.read(), 0);
        CHECK.due("no rules then", x.count(3), 0);
        CHECK.due("usual harm", x.harm(0), 0);
        CHECK.due("by none", x.by(0), -1);
    }

    private static void placeWithoutFault() {
        LockedLetter x = new LockedLetter();
        CHECK.due("no read yet", x.place(), -1);
        Check.feed(x, "#");
        CHECK.due("fed, not read", x.place(), -1);
        x.read();
        CHECK.due("read", x.place(), 0);
        Check.read(x, "cut 1;");
        CHECK.due("the latest has none", x.place(), -1);
        Check.read(x, " #");
        x.read();
        CHECK.due("an empty text has none", x.place(), -1);
    }

    private static void placeOfTheLatestRead() {
        LockedLetter x = new LockedLetter();
        Check.read(x, "harm 1 #");
        CHECK.due("the first", x.place(), 7);
        Check.read(x, "harm #");
        CHECK.due("the second", x.place(), 5);
        Check.feed(x, "cut 1;");
        x.back(1);
        x.sheet(3);
        x.fold(1, true, true);
        x.undo();
        CHECK.due("other calls leave it", x.place(), 5);
        CHECK.due("asked again", x.place(), 5);
    }

    private static void placeAtBothEnds() {
        CHECK.fault("#", 1, 0);
        CHECK.fault("#" + " ".repeat(1999), 1, 0);
        CHECK.fault(" ".repeat(1999) + "#", 1, 1999);
        CHECK.fault(" ".repeat(1999) + "a", 1, 1999);
        CHECK.fault("cut" + " ".repeat(1997), 1, 2000);
    }

    private static void faultChangesNothing() {
        for (String text : new String[] {"cut 1; harm", "cut 1; harm (((((((1)))))));", "cut 1;".repeat(17), "#", "cut 1; #"}) {
            LockedLetter x = new LockedLetter();
            LockedLetter y = new LockedLetter();
            Letters.some(x);
            Letters.some(y);
            x.back(Letters.TAPE.length());
            y.back(Letters.TAPE.length());
            CHECK.due("a fault in " + text, Check.read(x, text) > 0, true);
            CHECK.alike("behind the fault in " + text, Answers.butPlace(x), Answers.butPlace(y));
        }
    }

    private static void textTakesThePlaceOfTheOneAhead() {
        LockedLetter x = new LockedLetter();
        x.fold(1, true, true);
        Check.read(x, "cut 5;".repeat(16));
        CHECK.due("sixteen rules", x.count(3), 16);
        Check.read(x, "trick 7;");
        CHECK.due("one rule", x.count(3), 1);
        CHECK.due("by it alone", x.harm(0), 7);
        Check.read(x, "   ");
        CHECK.due("a text of blanks has no rules", x.count(3), 0);
    }

    // ---- TOKENS

    private static boolean isBlank(int b) {
        return b == 9 || b == 10 || b == 13 || b == 32;
    }

    private static boolean isIn(int b, String signs) {
        return signs.indexOf((char) b) >= 0;
    }

    private static void faultIf(boolean isFault, String text, int place) {
        CHECK.fault(text, isFault ? 1 : 0, isFault ? place : -1);
    }

    /** Of all bytes only the four blanks and digits may stand here; a letter makes it another word. */
    private static void anyByteBehindAWord() {
        for (int b = 0; b < 256; b++) {
            String text = "harm" + (char) b + "1;";
            boolean isLetter = b >= 'a' && b <= 'z';
            boolean isDigit = b >= '0' && b <= '9';
            faultIf(!isBlank(b) && !isDigit, text, isLetter ? 0 : b == '(' ? 6 : 4);
        }
    }

    /** A sign that joins, or a rule's end, is at fault only with what comes next. */
    private static void anyByteBehindAnInt() {
        for (int b = 0; b < 256; b++) {
            boolean isDigit = b >= '0' && b <= '9';
            faultIf(!isBlank(b) && !isDigit, "harm 1" + (char) b + ";", isIn(b, "+-*;") ? 7 : 6);
        }
    }

    private static void anyByteBehindARule() {
        for (int b = 0; b < 256; b++) {
            faultIf(!isBlank(b), "harm 1;" + (char) b, 7);
        }
    }

    private static void wordsOfTheGrammar() {
        for (String sort : SORTS) {
            CHECK.fault(sort + " 1;", 0, -1);
            CHECK.fault(sort.substring(1) + " 1;", 1, 0);
            CHECK.fault("z" + sort.substring(1) + " 1;", 1, 0);
            CHECK.fault(sort.substring(0, sort.length() - 1) + " 1;", 1, 0);
            CHECK.fault(sort + "s 1;", 1, 0);
            CHECK.fault(sort.toUpperCase() + " 1;", 1, 0);
            CHECK.fault("harm " + sort + ";", 1, 5);
        }
        for (String var : VARS) {
            CHECK.fault("harm " + var + ";", 0, -1);
            CHECK.fault("harm " + var.substring(1) + ";", 1, 5);
            CHECK.fault("harm z" + var.substring(1) + ";", 1, 5);
            CHECK.fault("harm " + var.substring(0, var.length() - 1) + ";", 1, 5);
            CHECK.fault("harm " + var + "s;", 1, 5);
            CHECK.fault(var + " 1;", 1, 0);
        }
        CHECK.fault("harm 1 i 1==1;", 1, 7);
        CHECK.fault("harm 1 iff 1==1;", 1, 7);
        CHECK.fault("harm 1 if 1==1 an 1==1;", 1, 15);
        CHECK.fault("harm 1 if 1==1 ands 1==1;", 1, 15);
        CHECK.fault("harm 1 if 1==1 o 1==1;", 1, 15);
        CHECK.fault("harm 1 if 1==1 ore 1==1;", 1, 15);
    }

    private static void wordsTooLong() {
        CHECK.fault("harm kindkind;", 1, 5);
        CHECK.fault("harm kindkinds;", 1, 5);
        CHECK.fault("harm aaaaaaaakind;", 1, 5);
        CHECK.fault("harm kindaaaaaaaa;", 1, 5);
        CHECK.fault("aaaaaaaaharm 1;", 1, 0);
        CHECK.fault("harm " + "a".repeat(1990) + ";", 1, 5);
    }

    private static void longestTokens() {
        CHECK.fault("harmharm 1;", 1, 0);
        CHECK.fault("harm kindlayers;", 1, 5);
        CHECK.fault("harm 1 ifkind==1;", 1, 7);
        CHECK.fault("harm 1if 1==1and 1==1or 1==1;", 0, -1);
        CHECK.fault("harm1if1==1and1==1or1==1;cut1;", 0, -1);
        CHECK.fault("harm 1 if 1<==1;", 1, 13);
        CHECK.fault("harm 1 if 1===1;", 1, 13);
        CHECK.fault("harm 1 if 1!==1;", 1, 13);
        CHECK.fault("harm 1 if 1<(1);", 0, -1);
        LockedLetter x = new LockedLetter();
        x.fold(1, true, true);
        Check.read(x, "harm 12+3; harm 1;");
        CHECK.due("12 is one int", x.harm(0), 15);
    }

    private static void ints() {
        CHECK.fault("harm 0;", 0, -1);
        CHECK.fault("harm 9999;", 0, -1);
        CHECK.fault("harm 0000;", 0, -1);
        CHECK.fault("harm 10000;", 1, 5);
        CHECK.fault("harm 00000;", 1, 5);
        CHECK.fault("harm 1+99999;", 1, 7);
        CHECK.fault("harm 1 if 1==00001;", 1, 13);
        CHECK.fault("harm " + "1".repeat(1990) + ";", 1, 5);
        // 2 to the power of 32 and one more: it must not wrap into an int.
        CHECK.fault("harm 4294967297;", 1, 5);
        LockedLetter x = new LockedLetter();
        x.fold(1, true, true);
        Check.read(x, "harm 1 if 9999 == 9998 + 1; harm 2;");
        CHECK.due("9999 is its number", x.harm(0), 1);
        Check.read(x, "harm 0999;");
        CHECK.due("digits from the highest on", x.harm(0), 999);
    }

    private static void signs() {
        for (String sign : new String[] {"==", "!=", "<", "<="}) {
            CHECK.fault("harm 1 if 1" + sign + "1;", 0, -1);
            CHECK.fault("harm 1 if 1 " + sign + " 1;", 0, -1);
        }
        for (String none : new String[] {"=", "!", ">", ">=", "=!", "=<", "<>", "! =", "= ="}) {
            int place = none.charAt(0) == '<' ? 12 : 11;
            CHECK.fault("harm 1 if 1" + none + "1;", 1, place);
        }
        CHECK.fault("harm 1 if 1< =1;", 1, 13);
        CHECK.fault("harm 1 if 1=", 1, 11);
        CHECK.fault("harm 1 if 1!", 1, 11);
        CHECK.fault("harm 1 if 1<", 1, 12);
        CHECK.fault("harm 1 if 1<=", 1, 13);
        CHECK.fault("harm 1 / 1;", 1, 7);
        CHECK.fault("harm 1 , 1;", 1, 7);
    }

    private static void rulesFromNoneOn() {
        CHECK.fault("", 0, -1);
        CHECK.fault(" ", 0, -1);
        CHECK.fault("\t\n\r ", 0, -1);
        CHECK.fault(";", 1, 0);
        CHECK.fault(" ;", 1, 1);
        CHECK.fault("cut 1;", 0, -1);
        CHECK.fault("cut 1;cut 1;", 0, -1);
    }

    private static void partsOfARule() {
        CHECK.fault("harm ;", 1, 5);
        CHECK.fault("harm if 1==1;", 1, 5);
        CHECK.fault("harm 1 if ;", 1, 10);
        CHECK.fault("harm 1 if 1;", 1, 11);
        CHECK.fault("harm 1 if 1==;", 1, 13);
        CHECK.fault("harm 1 if ==1;", 1, 10);
        CHECK.fault("harm 1 if 1==1==1;", 1, 14);
        CHECK.fault("harm 1 if 1==1 and;", 1, 18);
        CHECK.fault("harm 1 if 1==1 or;", 1, 17);
        CHECK.fault("harm 1 if 1==1 and or 1==1;", 1, 19);
        CHECK.fault("harm 1 if and 1==1;", 1, 10);
        CHECK.fault("harm 1 if 1 and 1==1;", 1, 12);
        CHECK.fault("harm 1 if 1==1 if 1==1;", 1, 15);
        CHECK.fault("harm 1 and 1;", 1, 7);
        CHECK.fault("harm 1 < 1;", 1, 7);
        CHECK.fault("harm 1 cut 1;", 1, 7);
        CHECK.fault("harm 1 1;", 1, 7);
        CHECK.fault("harm kind kind;", 1, 10);
        CHECK.fault("harm +1;", 1, 5);
        CHECK.fault("harm *1;", 1, 5);
        CHECK.fault("harm 1+*1;", 1, 7);
        CHECK.fault("harm ();", 1, 6);
        CHECK.fault("harm );", 1, 5);
        CHECK.fault("harm (1;", 1, 7);
        CHECK.fault("harm 1);", 1, 6);
        CHECK.fault("harm (1));", 1, 8);
        CHECK.fault("harm (1)(1);", 1, 8);
        CHECK.fault("harm (1) 1;", 1, 9);
        CHECK.fault("harm 1(1);", 1, 6);
        CHECK.fault("harm (1 if 1==1);", 1, 8);
        CHECK.fault("harm (1==1);", 1, 7);
        CHECK.fault("harm 1 if (1==1);", 1, 12);
        CHECK.fault("harm 1 if (1 and 1);", 1, 13);
        CHECK.fault("harm 1 if 1==(1;", 1, 15);
        CHECK.fault("harm 1 if (1)==(1);", 0, -1);
    }

    // ---- FAULTS

    private static void faultAtTheEnd() {
        String text = "harm (1+kind) if 1<=2 and (3)==4 or 5!=6";
        // Each beginning of the text breaks off at its end, but for the words that are cut through.
        for (String broken : new String[] {
            "harm", "harm (", "harm (1", "harm (1+", "harm (1+kind", "harm (1+kind)", "harm (1+kind) if", "harm (1+kind) if 1",
            "harm (1+kind) if 1<", "harm (1+kind) if 1<=", "harm (1+kind) if 1<=2", "harm (1+kind) if 1<=2 and",
            "harm (1+kind) if 1<=2 and (", "harm (1+kind) if 1<=2 and (3)==4", "harm (1+kind) if 1<=2 and (3)==4 or", text}) {
            CHECK.due("a beginning of it", text.startsWith(broken), true);
            CHECK.fault(broken, 1, broken.length());
            CHECK.fault(broken + " ", 1, broken.length() + 1);
            CHECK.fault(broken + "\n\t \r", 1, broken.length() + 4);
            CHECK.fault("cut 1;" + broken, 1, broken.length() + 6);
        }
        CHECK.fault(text + ";", 0, -1);
    }

    private static void firstFaultByPlace() {
        CHECK.fault("harm # $", 1, 5);
        CHECK.fault("harm (((((((1 #", 2, 11);
        CHECK.fault("harm # (((((((1", 1, 5);
        CHECK.fault("harm 12345 + (((((((1", 1, 5);
        CHECK.fault("cut 1;".repeat(16) + "cut #", 2, 96);
        CHECK.fault("cut 1;".repeat(15) + "cut # cut 1;", 1, 94);
        CHECK.fault("cut 1;".repeat(16) + "cut (((((((1", 2, 96);
        CHECK.fault("harm (((((((1))))))); " + "cut 1;".repeat(16), 2, 11);
    }

    private static String sum(int tokens) {
        // An odd number of TOKENS: a one, and each other one with a sign ahead.
        return "1" + "+1".repeat((tokens - 1) / 2);
    }

    private static void leastFaultOfOnePlace() {
        String sixteen = "cut 1;".repeat(16);
        CHECK.fault(sixteen + "kind", 1, 96);
        CHECK.fault(sixteen + "1", 1, 96);
        CHECK.fault(sixteen + "#", 1, 96);
        CHECK.fault(sixteen + "cutcutcut", 1, 96);
        String deep = "harm ((((((1";
        CHECK.fault(deep + "(", 1, deep.length());
        String full = "harm " + sum(399);
        CHECK.fault(full + "(", 1, full.length());
        CHECK.fault(full + " 1", 1, full.length() + 1);
        CHECK.fault(full + "#", 1, full.length());
        CHECK.fault(full + " aaaaaaaaa", 1, full.length() + 1);
        CHECK.fault(full + " 12345", 1, full.length() + 1);
        CHECK.fault(full, 1, full.length());
    }

    private static void tokens() {
        // 3 and 397 TOKENS.
        String last = "cut 1;harm " + sum(395) + ";";
        CHECK.fault(last, 0, -1);
        CHECK.fault(last + " \n", 0, -1);
        CHECK.fault(last.replace(";", " ; "), 0, -1);
        // 400 of them, and the RULE has no end yet; then 399.
        String tooMany = "harm (" + sum(397) + ")";
        CHECK.fault(tooMany, 1, tooMany.length());
        CHECK.fault(tooMany + ";", 2, tooMany.length());
        CHECK.fault(tooMany + "  ;cut 1;", 2, tooMany.length() + 2);
        CHECK.fault(tooMany + "+", 2, tooMany.length());
        CHECK.fault(tooMany + " if", 2, tooMany.length() + 1);
        String whole = "harm (" + sum(395) + ");";
        CHECK.fault(whole + "cut", 1, whole.length() + 3);
        CHECK.fault(whole + "cut 1", 2, whole.length() + 4);
        LockedLetter x = new LockedLetter();
        x.fold(1, true, true);
        Check.read(x, last);
        CHECK.due("all 400 count", x.harm(0), 1);
        Check.read(x, "harm " + sum(397) + ";");
        CHECK.due("a sum of 199 ones", x.harm(0), 199);
    }

    private static void rules() {
        String sixteen = "cut 1;".repeat(15) + "harm 0;";
        LockedLetter x = new LockedLetter();
        x.fold(1, true, true);
        CHECK.due("sixteen rules", Check.read(x, sixteen), 0);
        CHECK.due("count(3)", x.count(3), 16);
        CHECK.due("the last one holds", x.by(0), 15);
        for (String sort : SORTS) {
            CHECK.fault(sixteen + sort + " 1;", 2, sixteen.length());
            CHECK.fault(sixteen + "  " + sort, 2, sixteen.length() + 2);
        }
        CHECK.fault("cut 1;".repeat(15) + "cut 1", 1, 95);
    }

    private static void parentheses() {
        CHECK.fault("harm ((((((1))))));", 0, -1);
        CHECK.fault("harm (((((((1)))))));", 2, 11);
        CHECK.fault("harm (((((((", 2, 11);
        CHECK.fault("harm ((((((((((", 2, 11);
        CHECK.fault("harm ( ( ( ( ( ( (1", 2, 17);
        CHECK.fault("harm (1)+(1)+(1)+(1)+(1)+(1)+(1)+(1);", 0, -1);
        CHECK.fault("harm ((((((1))))))*((((((1))))));", 0, -1);
        CHECK.fault("harm (((((((1", 2, 11);
        CHECK.fault("harm (((((1)+((1)))))*(((((1))))));", 0, -1);
        CHECK.fault("harm (((((1)+(((1", 2, 15);
        CHECK.fault("harm 1 if ((((((1))))))==((((((1))))));", 0, -1);
        CHECK.fault("harm 1 if (((((((1", 2, 16);
        CHECK.fault("harm 1 if 1==(((((((1", 2, 19);
        CHECK.fault("harm ((((((1))))));cut ((((((1))))));", 0, -1);
        CHECK.fault("harm ((((((1))))));cut (((((((1", 2, 29);
    }
}
