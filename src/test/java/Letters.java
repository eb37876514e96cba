/** Letters that tests begin with. */
final class Letters {
    static final String TAPE = "trick 7; cut 1;";

    private Letters() {
    }

    /** Something of everything: ACTS, MARKS, FINDS, RULES, bytes on the tape, HANDS and LOOKS. */
    static void some(LockedLetter x) {
        x.sheet(5);
        Check.read(x, "harm 2 if kind == 0; cut 3 + number; trick 9; peep 4; opens 5; doubt 6;");
        Check.feed(x, TAPE);
        x.fold(2, true, true);
        x.slit(0, 2);
        x.lock(0, 2);
        x.soil();
        x.seal(1);
        x.find(0, 1, 1);
        x.find(1, 2, 1);
        x.find(2, 0, 0);
        x.hand(3);
        x.hand(2);
        x.look(1, 1);
        x.look(1, 1);
        x.look(4, 2);
    }

    /** As many ACTS as there may be, in two COLUMNS: cB with SLITS in both, dA with one in a alone. */
    static void sixteenActs(LockedLetter x) {
        x.fold(2, true, true);
        x.slit(0, 2);
        x.slit(1, 1);
        for (int act = 3; act < 16; act++) {
            x.soil();
        }
    }
}
