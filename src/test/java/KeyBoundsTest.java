/** Promises 11 to 15: the sentences that name a boundary case. */
public final class KeyBoundsTest {
    private static final Due DUE = new Due("KeyBoundsTest");
    private static final int NONE = Bounds.NONE, BAD = Bounds.BAD, STATE = Bounds.STATE, FULL = Bounds.FULL;
    private static final int PLACE = Bounds.PLACE, SIZE = Bounds.SIZE;
    private static final String NINES = "999999999999999999";

    public static void main(String[] args) {
        blanks();
        blanksAreFull();
        keyLengths();
        keyFigures();
        keyTakesBlank();
        keysAreFull();
        turned();
        turnedTakesBlank();
        turnedIsFull();
        cut();
        length();
        DUE.end();
    }

    private static Bounds promise(int number, String sentence, String... shop) {
        return new Bounds(DUE, "promise " + number + ": " + sentence, shop);
    }

    private static void blanks() {
        promise(11, "so many BLANKS (0 to 100): how many there are")
            .taken("blanks(0)", 0).then("told(5)", 0).taken("blanks(100)", 100).then("told(5)", 100)
            .taken("blanks(1)", 1);
        promise(11, "BAD")
            .refused("blanks(-1)", BAD).refused("blanks(101)", BAD)
            .refused("blanks(LEAST)", BAD).refused("blanks(GREATEST)", BAD);
        promise(11, "how many there are", "blanks(7); key(0, 0)").taken("blanks(0)", 6).taken("blanks(100)", 106);
    }

    private static void blanksAreFull() {
        String most = Run.times(9, "blanks(100)");
        promise(11, "1000 at most", most)
            .taken("blanks(100)", 1000).then("told(5)", 1000).refused("blanks(101)", BAD);
        promise(11, "FULL: there would be above 1000", most, "blanks(1)")
            .refused("blanks(100)", FULL).then("told(5)", 901).taken("blanks(99)", 1000);
        promise(11, "FULL: there would be above 1000", most, "blanks(100)")
            .refused("blanks(1)", FULL).refused("blanks(100)", FULL).taken("blanks(0)", 1000);
        promise(11, "BAD ahead of FULL", most, "blanks(100)").refused("blanks(101)", BAD).refused("blanks(-1)", BAD);
        promise(11, "FULL no more, when one was taken", most, "blanks(100); key(1, 1)")
            .taken("blanks(1)", 1000).refused("blanks(2)", FULL);
    }

    private static void keyLengths() {
        promise(12, "n CUTS", "blanks(1)")
            .taken("key(0, 5)", 0).then("length(0)", 0).then("cut(0, 0)", PLACE)
            .taken("key(18, 5)", 0).then("length(0)", 18).then("cut(0, 17)", 0).then("cut(0, 18)", PLACE);
        promise(12, "BAD: also n above 18", "blanks(1)")
            .refused("key(19, 5)", BAD).then("told(6)", 0).refused("key(GREATEST, 5)", BAD);
        promise(12, "SIZE (a BLANK was taken, and is put back)", "blanks(1)")
            .refused("key(-1, 5)", SIZE).then("told(5)", 1).then("told(6)", 1).then("told(1)", 0).then("key(1, 1)", 0)
            .refused("key(LEAST, 5)", SIZE);
        promise(12, "SIZE does not bar the next", "blanks(1); key(-1, 5) = -15; key(-1, 5) = -15")
            .taken("key(1, 5)", 0).then("told(6)", 3).then("told(5)", 0);
    }

    private static void keyFigures() {
        promise(12, "the figures of cuts (0 to 999999999999999999)", "blanks(1)")
            .taken("key(18, 0)", 0).then("cut(0, 0)", 0).then("cut(0, 17)", 0)
            .taken("key(18, " + NINES + ")", 0).then("cut(0, 0)", 9).then("cut(0, 17)", 9)
            .taken("key(0, " + NINES + ")", 0);
        promise(12, "BAD: cuts", "blanks(1)")
            .refused("key(18, 1000000000000000000)", BAD).refused("key(18, -1)", BAD)
            .refused("key(0, 1000000000000000000)", BAD).refused("key(0, -1)", BAD)
            .refused("key(1, 9223372036854775807)", BAD).refused("key(1, -9223372036854775808)", BAD);
        promise(12, "the lowest first", "blanks(1)")
            .taken("key(18, 123456789012345678)", 0).then("cut(0, 0)", 8).then("cut(0, 8)", 0).then("cut(0, 9)", 9)
            .then("cut(0, 16)", 2).then("cut(0, 17)", 1)
            .taken("key(2, 123456789012345678)", 0).then("cut(0, 0)", 8).then("cut(0, 1)", 7).then("cut(0, 2)", PLACE);
        promise(12, "BAD ahead of SIZE", "blanks(1)")
            .refused("key(-1, -1)", BAD).then("told(6)", 0).refused("key(-1, 1000000000000000000)", BAD);
    }

    private static void keyTakesBlank() {
        promise(12, "a BLANK is taken, TRIES is 1 more", "blanks(1)")
            .taken("key(1, 1)", 0).then("told(5)", 0).then("told(6)", 1).then("told(1)", 1);
        promise(12, "STATE: no BLANK")
            .refused("key(1, 1)", STATE).then("told(6)", 0).refused("key(0, 0)", STATE);
        promise(12, "STATE: no BLANK, when all are taken", "blanks(1); key(1, 1)")
            .refused("key(1, 1)", STATE).then("told(6)", 1).then("told(1)", 1);
        promise(12, "STATE no more, when the KEY is undone", "blanks(1); key(1, 1); undo(); person()")
            .taken("key(1, 2)", 0).then("told(6)", 2);
        promise(12, "STATE ahead of SIZE", "person()").refused("key(-1, 1)", STATE).then("told(6)", 0);
        promise(12, "BAD ahead of STATE", "person()")
            .refused("key(19, 1)", BAD).refused("key(1, -1)", BAD).refused("key(1, 1000000000000000000)", BAD);
    }

    private static void keysAreFull() {
        String but1 = "blanks(100); " + Run.times(98, "key(1, #)") + "turned(0, 1)";
        promise(12, "100 at most: the 100th, of the last BLANK", but1)
            .taken("key(18, " + NINES + ")", 99).then("told(1)", 100).then("told(5)", 0).then("cut(99, 17)", 9);
        String all = but1 + "; key(2, 21)";
        promise(12, "FULL, ahead of STATE and SIZE", all)
            .refused("key(1, 1)", FULL).then("told(6)", 100).refused("key(-1, 1)", FULL).then("told(6)", 100);
        promise(12, "FULL with BLANKS", all, "blanks(1)")
            .refused("key(1, 1)", FULL).then("told(5)", 1).refused("key(-1, 1)", FULL);
        promise(12, "BAD ahead of FULL", all, "blanks(1)").refused("key(19, 1)", BAD).refused("key(1, -1)", BAD);
        promise(12, "FULL no more, when one is undone", all, "undo()", "person()").taken("key(1, 7)", 99);
    }

    private static void turned() {
        String shop = "blanks(3); key(18, 123456789012345678); key(3, 321)";
        promise(13, "the first n CUTS of another one, the last of them first", shop)
            .taken("turned(1, 0)", 2).then("length(2)", 0)
            .taken("turned(1, 1)", 2).then("length(2)", 1).then("cut(2, 0)", 1)
            .taken("turned(1, 2)", 2).then("cut(2, 0)", 2).then("cut(2, 1)", 1).then("cut(2, 2)", PLACE)
            .taken("turned(1, 3)", 2).then("cut(2, 0)", 3).then("cut(2, 2)", 1).then("length(2)", 3)
            .taken("turned(0, 18)", 2).then("cut(2, 0)", 1).then("cut(2, 17)", 8).then("length(2)", 18)
            .taken("turned(0, 17)", 2).then("cut(2, 0)", 2).then("cut(2, 16)", 8);
        promise(13, "PLACE: it has not so many", shop)
            .refused("turned(1, 4)", PLACE).then("told(5)", 1).then("told(6)", 3).then("told(1)", 2)
            .refused("turned(1, 18)", PLACE);
        promise(13, "PLACE: of a KEY without CUTS", "blanks(2); key(0, 0)")
            .refused("turned(0, 1)", PLACE).taken("turned(0, 0)", 1);
        promise(13, "BAD: also n above 18", shop)
            .refused("turned(0, 19)", BAD).then("told(6)", 2).refused("turned(1, 19)", BAD)
            .refused("turned(0, GREATEST)", BAD);
        promise(13, "SIZE", shop)
            .refused("turned(0, -1)", SIZE).then("told(5)", 1).then("told(6)", 3).refused("turned(0, LEAST)", SIZE);
        promise(13, "BAD", shop)
            .refused("turned(-1, 0)", BAD).refused("turned(2, 0)", BAD)
            .refused("turned(LEAST, 0)", BAD).refused("turned(GREATEST, 0)", BAD);
        promise(13, "BAD ahead of SIZE, PLACE", shop).refused("turned(2, -1)", BAD).refused("turned(-1, 4)", BAD);
    }

    private static void turnedTakesBlank() {
        promise(13, "a BLANK is taken, TRIES is 1 more", "blanks(2); key(1, 7)")
            .taken("turned(0, 1)", 1).then("told(5)", 0).then("told(6)", 2);
        promise(13, "STATE", "blanks(1); key(1, 7)")
            .refused("turned(0, 1)", STATE).then("told(6)", 1).refused("turned(0, 0)", STATE);
        promise(13, "STATE ahead of SIZE, PLACE", "blanks(1); key(1, 7)")
            .refused("turned(0, -1)", STATE).then("told(6)", 1).refused("turned(0, 2)", STATE).then("told(6)", 1);
        promise(13, "BAD ahead of STATE", "blanks(1); key(1, 7)")
            .refused("turned(0, 19)", BAD).refused("turned(1, 1)", BAD);
        promise(13, "the BLANK that is put back can be taken", "blanks(2); key(1, 7); turned(0, 2) = -12; "
            + "turned(0, -1) = -15")
            .taken("turned(0, 1)", 1).then("told(5)", 0).then("told(6)", 4);
    }

    private static void turnedIsFull() {
        String but1 = "blanks(100); " + Run.times(99, "key(1, #)");
        promise(13, "100 at most: the 100th, of the last BLANK", but1).taken("turned(98, 1)", 99).then("cut(99, 0)", 8);
        String all = but1 + "turned(0, 1)";
        promise(13, "FULL, ahead of STATE, SIZE and PLACE", all)
            .refused("turned(0, 1)", FULL).refused("turned(0, -1)", FULL).refused("turned(0, 2)", FULL)
            .then("told(6)", 100);
        promise(13, "FULL with BLANKS", all, "blanks(1)").refused("turned(99, 1)", FULL).then("told(5)", 1);
        promise(13, "BAD ahead of FULL", all).refused("turned(100, 1)", BAD).refused("turned(0, 19)", BAD);
    }

    private static void cut() {
        String shop = "blanks(3); key(18, 923456789012345678); key(1, 4); key(0, 0)";
        promise(14, "CUT i of a KEY", shop)
            .asked("cut(0, 0)", 8).asked("cut(0, 17)", 9).asked("cut(1, 0)", 4).asked("cut(0, 8)", 0);
        promise(14, "PLACE", shop)
            .refused("cut(0, 18)", PLACE).refused("cut(0, -1)", PLACE).refused("cut(1, 1)", PLACE)
            .refused("cut(1, -1)", PLACE).refused("cut(2, 0)", PLACE).refused("cut(2, -1)", PLACE)
            .refused("cut(0, LEAST)", PLACE).refused("cut(0, GREATEST)", PLACE);
        promise(14, "BAD, ahead of PLACE", shop)
            .refused("cut(-1, 0)", BAD).refused("cut(3, 0)", BAD).refused("cut(3, 18)", BAD)
            .refused("cut(LEAST, 0)", BAD).refused("cut(GREATEST, 0)", BAD);
        promise(14, "BAD: there is no KEY").refused("cut(0, 0)", BAD);
    }

    private static void length() {
        String shop = "blanks(3); key(18, 5); key(0, 5)";
        promise(15, "how many CUTS a KEY has", shop).asked("length(0)", 18).asked("length(1)", 0);
        promise(15, "BAD", shop)
            .refused("length(-1)", BAD).refused("length(2)", BAD)
            .refused("length(LEAST)", BAD).refused("length(GREATEST)", BAD);
        promise(15, "BAD: of one that was undone", shop, "undo()", "person()").refused("length(1)", BAD);
        promise(15, "of a KEY that is LOST", shop, "lose(0)").asked("length(0)", 18).asked("holder(1)", NONE);
    }
}
