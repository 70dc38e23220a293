/** Promises 23 to 30: the sentences that name a boundary case. */
public final class DoorBoundsTest {
    private static final Due DUE = new Due("DoorBoundsTest");
    private static final int NONE = Bounds.NONE, BAD = Bounds.BAD, STATE = Bounds.STATE, FULL = Bounds.FULL;
    private static final int LOST = Bounds.LOST;
    private static final String KEYS = "blanks(3); key(1, 1); key(1, 2); key(1, 3); ";
    /** KEY 0 in the shop, KEY 1 lent to person 0, KEY 2 LOST by person 1. */
    private static final String SHOP = KEYS + "person(); person(); lend(1, 0); lend(2, 1); lose(2)";

    public static void main(String[] args) {
        door();
        fit();
        fitRefusals();
        person();
        lend();
        lendRefusals();
        bringBack();
        lose();
        found();
        holder();
        DUE.end();
    }

    private static Bounds promise(int number, String sentence, String... shop) {
        return new Bounds(DUE, "promise " + number + ": " + sentence, shop);
    }

    private static void door() {
        promise(23, "its number, from 0 on").taken("door()", 0).then("told(3)", 1).then("fit(0, NONE)", NONE);
        String but1 = Run.times(39, "door()");
        promise(23, "the 40th, without a CYLINDER", but1)
            .taken("door()", 39).then("told(3)", 40).then("fit(39, NONE)", NONE);
        promise(23, "FULL: there are 40", but1, "door()")
            .refused("door()", FULL).then("told(3)", 40).then("fit(40, NONE)", BAD);
        promise(23, "FULL no more, when one is undone", but1, "door()", "undo()", "person()").taken("door()", 39);
        promise(23, "its number, when one is undone", "cylinder(0, 1); door(); fit(0, 0); door(); undo(); person()")
            .taken("door()", 1).then("fit(1, NONE)", NONE).then("fit(0, NONE)", 0);
    }

    private static void fit() {
        String shop = "cylinder(0, 1); cylinder(3, 0); twin(NONE, NONE); cylinder(2, 1); takeCore(3); " + Run.times(40,
            "door()");
        promise(24, "a DOOR has a CYLINDER: what it had, NONE", shop)
            .taken("fit(0, 0)", NONE).then("fit(0, NONE)", 0).then("fit(1, NONE)", NONE)
            .taken("fit(39, 3)", NONE).then("fit(39, 0)", 3).then("fit(38, NONE)", NONE)
            .taken("fit(0, 1)", NONE).taken("fit(0, 2)", NONE);
        promise(24, "NONE: none", shop).taken("fit(0, NONE)", NONE).then("fit(0, NONE)", NONE);
        String fitted = shop + "fit(0, 2); fit(39, 0)";
        promise(24, "what it had", fitted)
            .taken("fit(0, 1)", 2).then("fit(0, NONE)", 1).taken("fit(0, 2)", 2).then("fit(0, NONE)", 2)
            .taken("fit(0, NONE)", 2).then("fit(0, NONE)", NONE).taken("fit(39, NONE)", 0).then("fit(39, 1)", NONE);
        promise(24, "which may be at several", fitted)
            .taken("fit(1, 0)", NONE).then("fit(39, NONE)", 0).then("fit(1, NONE)", 0);
    }

    private static void fitRefusals() {
        String shop = "cylinder(0, 1); door(); door(); fit(1, 0)";
        promise(24, "BAD", shop)
            .refused("fit(-1, 0)", BAD).refused("fit(2, 0)", BAD).refused("fit(0, 1)", BAD).refused("fit(0, -2)", BAD)
            .refused("fit(-1, NONE)", BAD).refused("fit(2, NONE)", BAD)
            .refused("fit(LEAST, 0)", BAD).refused("fit(GREATEST, 0)", BAD)
            .refused("fit(0, LEAST)", BAD).refused("fit(1, GREATEST)", BAD);
    }

    private static void person() {
        promise(25, "the number, from 0 on").taken("person()", 0).then("told(4)", 1);
        String but1 = "blanks(1); key(0, 0); " + Run.times(39, "person()");
        promise(25, "the 40th", but1).taken("person()", 39).then("told(4)", 40).then("lend(0, 39)", 1);
        promise(25, "FULL: there are 40", but1, "person()")
            .refused("person()", FULL).then("told(4)", 40).then("lend(0, 40)", BAD);
        promise(25, "FULL no more, when one is undone", but1, "person()", "undo()", "door()").taken("person()", 39);
    }

    private static void lend() {
        promise(26, "how many the person has", KEYS + "person(); person()")
            .taken("lend(0, 0)", 1).then("holder(0)", 0).taken("lend(2, 1)", 1).then("holder(2)", 1);
        promise(26, "how many the person has: those of others do not count", SHOP)
            .taken("lend(0, 1)", 1).taken("lend(0, 0)", 2);
        promise(26, "how many the person has: all", "blanks(100); " + Run.times(100, "key(0, 0)") + "person(); "
            + Run.times(99, "lend(#, 0)")).taken("lend(99, 0)", 100).then("holder(99)", 0);
        promise(26, "how many the person has: one that was brought back, or LOST, no more", SHOP, "bringBack(1)")
            .taken("lend(1, 0)", 1).taken("lend(0, 1)", 1);
        promise(26, "the person that is the last", KEYS + Run.times(40, "person()"))
            .taken("lend(0, 39)", 1).then("holder(0)", 39);
    }

    private static void lendRefusals() {
        promise(26, "BAD", SHOP)
            .refused("lend(-1, 0)", BAD).refused("lend(3, 0)", BAD).refused("lend(0, -1)", BAD)
            .refused("lend(0, 2)", BAD).refused("lend(LEAST, 0)", BAD).refused("lend(GREATEST, 0)", BAD)
            .refused("lend(0, LEAST)", BAD).refused("lend(0, GREATEST)", BAD);
        promise(26, "BAD: no person", KEYS).refused("lend(0, 0)", BAD);
        promise(26, "STATE: it is lent", SHOP)
            .refused("lend(1, 0)", STATE).refused("lend(1, 1)", STATE).then("holder(1)", 0);
        promise(26, "STATE: it is LOST", SHOP)
            .refused("lend(2, 0)", STATE).refused("lend(2, 1)", STATE).then("holder(2)", LOST);
        promise(26, "BAD ahead of STATE", SHOP)
            .refused("lend(1, 2)", BAD).refused("lend(2, 2)", BAD).refused("lend(1, -1)", BAD)
            .refused("lend(2, -6)", BAD);
        promise(26, "STATE no more, when it is back, or found", SHOP, "bringBack(1); found(2)")
            .taken("lend(1, 1)", 1).taken("lend(2, 0)", 1);
    }

    private static void bringBack() {
        promise(27, "by whom", SHOP).taken("bringBack(1)", 0).then("holder(1)", NONE);
        promise(27, "by whom: the last person", KEYS + Run.times(40, "person()") + "lend(2, 39)")
            .taken("bringBack(2)", 39).then("holder(2)", NONE);
        promise(27, "STATE: it is not lent", SHOP).refused("bringBack(0)", STATE);
        promise(27, "STATE: it is not lent any more", SHOP, "bringBack(1)").refused("bringBack(1)", STATE);
        promise(27, "STATE (one that is LOST is not)", SHOP).refused("bringBack(2)", STATE).then("holder(2)", LOST);
        promise(27, "STATE: one that is found is not", SHOP, "found(2)").refused("bringBack(2)", STATE);
        promise(27, "BAD", SHOP)
            .refused("bringBack(-1)", BAD).refused("bringBack(3)", BAD)
            .refused("bringBack(LEAST)", BAD).refused("bringBack(GREATEST)", BAD);
    }

    private static void lose() {
        promise(28, "who had it", SHOP).taken("lose(1)", 0).then("holder(1)", LOST);
        promise(28, "lent no more", SHOP, "lose(1)").taken("lend(0, 0)", 1).refused("bringBack(1)", STATE);
        promise(28, "NONE: it was in the shop", SHOP).taken("lose(0)", NONE).then("holder(0)", LOST);
        promise(28, "STATE: it is LOST already", SHOP).refused("lose(2)", STATE).then("holder(2)", LOST);
        promise(28, "BAD", SHOP)
            .refused("lose(-1)", BAD).refused("lose(3)", BAD).refused("lose(LEAST)", BAD)
            .refused("lose(GREATEST)", BAD);
        promise(28, "the last of 100 KEYS", "blanks(100); " + Run.times(100, "key(0, 0)")).taken("lose(99)", NONE)
            .then("holder(99)", LOST).refused("lose(100)", BAD);
    }

    private static void found() {
        promise(29, "found, and in the shop: 1", SHOP).taken("found(2)", 1).then("holder(2)", NONE);
        promise(29, "STATE: it is not LOST", SHOP)
            .refused("found(0)", STATE).refused("found(1)", STATE).then("holder(1)", 0);
        promise(29, "STATE: it is not LOST any more", SHOP, "found(2)").refused("found(2)", STATE);
        promise(29, "BAD", SHOP)
            .refused("found(-1)", BAD).refused("found(3)", BAD).refused("found(LEAST)", BAD)
            .refused("found(GREATEST)", BAD);
    }

    private static void holder() {
        promise(30, "who has a KEY; NONE: the shop; -6: it is LOST", SHOP)
            .asked("holder(0)", NONE).asked("holder(1)", 0).asked("holder(2)", -6);
        promise(30, "who has a KEY: the last person", KEYS + Run.times(40, "person()") + "lend(2, 39)")
            .asked("holder(2)", 39);
        promise(30, "BAD", SHOP)
            .refused("holder(-1)", BAD).refused("holder(3)", BAD).refused("holder(LEAST)", BAD)
            .refused("holder(GREATEST)", BAD);
    }
}
