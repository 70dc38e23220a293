/** Promises 1 to 10: the sentences that name a boundary case. */
public final class CylinderBoundsTest {
    private static final Due DUE = new Due("CylinderBoundsTest");
    private static final int NONE = Bounds.NONE, BAD = Bounds.BAD, STATE = Bounds.STATE, FULL = Bounds.FULL;
    private static final int NOTHING = Bounds.NOTHING, PLACE = Bounds.PLACE, KIND = Bounds.KIND, SIZE = Bounds.SIZE;
    /** Each has the number of its KIND. */
    private static final String FIVE = "cylinder(0, 2); cylinder(1, 2); cylinder(2, 2); cylinder(3, 2); twin(0, 1)";

    public static void main(String[] args) {
        newObject();
        cylinder();
        cylinderIsFull();
        twin();
        twinIsFull();
        heightAndChamber();
        heightOfOne();
        heightOfFour();
        heightOfNone();
        heightFindings();
        heightAt();
        heightAtFindings();
        takeCore();
        takeCoreFindings();
        putCore();
        putCoreFindings();
        kind();
        chambers();
        weight();
        weightMeetsNothing();
        DUE.end();
    }

    private static Bounds promise(int number, String sentence, String... shop) {
        return new Bounds(DUE, "promise " + number + ": " + sentence, shop);
    }

    private static void newObject() {
        Bounds shop = promise(1, "an empty shop");
        for (int what = 0; what <= 4; what++) {
            shop.asked("told(" + what + ")", 0);
        }
        shop.asked("told(9)", NONE).asked("told(8)", 0).asked("trace(0)", NONE).asked("trials()", 0);
        shop.refused("kind(0)", BAD).refused("length(0)", BAD).refused("inside(0, 0)", BAD);
        shop.refused("fit(0, NONE)", BAD).refused("holder(0)", BAD).refused("undo()", STATE);
        promise(1, "without BLANKS").asked("told(5)", 0).refused("key(0, 0)", STATE);
        promise(1, "TRIES 0").asked("told(6)", 0);
        promise(1, "no FINDING").asked("finding()", 0).asked("told(7)", 0);
        promise(1, "AT NONE").asked("at()", NONE);
        new Run("blanks(9); cylinder(0, 1); key(1, 1); door(); person(); cabinet(0, 1); turn(0, 0); cut(0, 1) = -12");
        promise(1, "an empty shop, also behind another one").asked("told(0)", 0).asked("finding()", 0);
    }

    private static void cylinder() {
        for (int kind = 0; kind <= 3; kind++) {
            String call = "cylinder(" + kind + ", ";
            promise(2, "a KIND (0 to 3), n CHAMBERS")
                .taken(call + "0)", 0).then("kind(0)", kind).then("chambers(0)", 0)
                .taken(call + "18)", 0).then("kind(0)", kind).then("chambers(0)", 18);
            promise(2, "BAD: also n above 18").refused(call + "19)", BAD).refused(call + "GREATEST)", BAD);
            promise(2, "SIZE").refused(call + "-1)", SIZE).refused(call + "LEAST)", SIZE);
        }
        promise(2, "a KIND (0 to 3), else BAD")
            .refused("cylinder(-1, 1)", BAD).refused("cylinder(4, 1)", BAD)
            .refused("cylinder(LEAST, 1)", BAD).refused("cylinder(GREATEST, 1)", BAD);
        promise(2, "BAD ahead of SIZE").refused("cylinder(-1, -1)", BAD).refused("cylinder(4, -1)", BAD);
        promise(2, "its number", FIVE).taken("cylinder(0, 1)", 5).then("told(0)", 6);
    }

    private static void cylinderIsFull() {
        String but1 = Run.times(98, "cylinder(0, 1)") + "twin(0, NONE)";
        promise(2, "100 at most: the 100th", but1).taken("cylinder(3, 18)", 99).then("told(0)", 100);
        promise(2, "BAD and SIZE with 99", but1).refused("cylinder(4, 1)", BAD).refused("cylinder(0, -1)", SIZE);
        String all = but1 + "; cylinder(1, 1)";
        promise(2, "FULL: the 101st", all)
            .refused("cylinder(0, 0)", FULL).then("told(0)", 100).then("kind(100)", BAD)
            .refused("cylinder(3, 18)", FULL);
        promise(2, "FULL ahead of SIZE", all).refused("cylinder(0, -1)", FULL);
        promise(2, "BAD ahead of FULL", all)
            .refused("cylinder(-1, 1)", BAD).refused("cylinder(4, 1)", BAD).refused("cylinder(0, 19)", BAD);
        promise(2, "100 at most: behind undo() the 100th again", all, "undo()", "blanks(0)")
            .taken("cylinder(0, 1)", 99);
    }

    private static void twin() {
        for (int one = -1; one <= 3; one++) {
            for (int two = -1; two <= 3; two++) {
                promise(3, "of two CYLINDERS (perhaps one twice; NONE: none there): its number", FIVE)
                    .taken("twin(" + one + ", " + two + ")", 5).then("kind(5)", 4).then("chambers(5)", KIND);
            }
        }
        promise(3, "NONE: none there").taken("twin(NONE, NONE)", 0).refused("twin(0, NONE)", BAD);
        promise(3, "BAD", FIVE)
            .refused("twin(-2, 0)", BAD).refused("twin(0, -2)", BAD)
            .refused("twin(5, 0)", BAD).refused("twin(0, 5)", BAD)
            .refused("twin(LEAST, NONE)", BAD).refused("twin(NONE, GREATEST)", BAD);
        promise(3, "KIND (one is no PLAIN)", FIVE)
            .refused("twin(4, 0)", KIND).refused("twin(0, 4)", KIND).refused("twin(4, 4)", KIND)
            .refused("twin(NONE, 4)", KIND).refused("twin(4, NONE)", KIND);
        promise(3, "BAD ahead of KIND", FIVE).refused("twin(4, 5)", BAD).refused("twin(-2, 4)", BAD);
    }

    private static void twinIsFull() {
        String but1 = Run.times(98, "cylinder(0, 1)") + "twin(0, NONE)";
        promise(3, "100 at most: the 100th", but1)
            .taken("twin(97, 0)", 99).then("kind(99)", 4).refused("twin(98, 0)", KIND).refused("twin(99, 0)", BAD);
        String all = but1 + "; twin(0, 0)";
        promise(3, "FULL: the 101st", all).refused("twin(0, 0)", FULL).refused("twin(NONE, NONE)", FULL);
        promise(3, "FULL ahead of KIND", all).refused("twin(98, 0)", FULL).refused("twin(0, 99)", FULL);
        promise(3, "BAD ahead of FULL", all).refused("twin(100, 0)", BAD).refused("twin(0, -2)", BAD);
    }

    private static void heightAndChamber() {
        String shop = "cylinder(1, 18); height(0, 4, 5, true)";
        promise(4, "a HEIGHT (0 to 9)", shop)
            .taken("height(0, 0, 0, true)", 1).then("heightAt(0, 0, 0)", 0)
            .taken("height(0, 0, 9, true)", 1).then("heightAt(0, 0, 0)", 9)
            .taken("height(0, 0, 0, false)", 0).taken("height(0, 0, 9, false)", 0);
        promise(4, "BAD: HEIGHT", shop)
            .refused("height(0, 0, -1, true)", BAD).refused("height(0, 0, 10, true)", BAD)
            .refused("height(0, 4, -1, false)", BAD).refused("height(0, 4, 10, false)", BAD)
            .refused("height(0, 4, 32, true)", BAD).refused("height(0, 4, 37, false)", BAD)
            .refused("height(0, 0, LEAST, true)", BAD).refused("height(0, 0, GREATEST, true)", BAD);
        promise(4, "BAD: CYLINDER", shop)
            .refused("height(-1, 0, 0, true)", BAD).refused("height(1, 0, 0, true)", BAD)
            .refused("height(LEAST, 0, 0, false)", BAD).refused("height(GREATEST, 0, 0, false)", BAD);
        promise(4, "a CHAMBER, numbered from 0 on", shop)
            .taken("height(0, 17, 3, true)", 1).then("heightAt(0, 17, 0)", 3);
        promise(4, "PLACE", shop)
            .refused("height(0, -1, 3, true)", PLACE).refused("height(0, 18, 3, true)", PLACE)
            .refused("height(0, -1, 3, false)", PLACE).refused("height(0, 18, 3, false)", PLACE)
            .refused("height(0, LEAST, 3, true)", PLACE).refused("height(0, GREATEST, 3, true)", PLACE);
        promise(4, "PLACE: the row of another CYLINDER is not reached", "cylinder(0, 2); cylinder(0, 2)")
            .taken("height(0, 1, 3, true)", 1).refused("height(0, 2, 3, true)", PLACE)
            .refused("height(1, -1, 3, true)", PLACE);
        for (int kind = 0; kind <= 3; kind++) {
            promise(4, "PLACE: without CHAMBERS", "cylinder(" + kind + ", 0)")
                .refused("height(0, 0, 3, true)", PLACE).refused("height(0, 0, 3, false)", PLACE);
        }
    }

    private static void heightOfOne() {
        String one = "cylinder(0, 2); height(0, 1, 5, true)";
        promise(4, "MOST of a PLAIN 1", "cylinder(0, 2)").taken("height(0, 1, 5, true)", 1);
        promise(4, "FULL: as many as its MOST (a PLAIN)", one)
            .refused("height(0, 1, 4, true)", FULL).refused("height(0, 1, 6, true)", FULL)
            .taken("height(0, 0, 4, true)", 1);
        promise(4, "if it was there already: as many as before (a PLAIN)", one).taken("height(0, 1, 5, true)", 1);
        promise(4, "goes from it", one).taken("height(0, 1, 5, false)", 0).then("heightAt(0, 1, 0)", NOTHING);
        promise(4, "if it was not there already: as many as before", one)
            .taken("height(0, 1, 4, false)", 1).then("heightAt(0, 1, 0)", 5).taken("height(0, 0, 5, false)", 0);
        promise(4, "FULL no more, when one went", one, "height(0, 1, 5, false)").taken("height(0, 1, 4, true)", 1);
    }

    private static void heightOfFour() {
        for (int kind = 1; kind <= 2; kind++) {
            String three = "cylinder(" + kind + ", 2); height(0, 1, 9, true); height(0, 1, 0, true); "
                + "height(0, 1, 4, true)";
            promise(4, "MOST of a MASTER, CORE 4: the fourth", three).taken("height(0, 1, 3, true)", 4);
            String four = three + "; height(0, 1, 3, true)";
            promise(4, "FULL: as many as its MOST (a MASTER, CORE)", four)
                .refused("height(0, 1, 5, true)", FULL).refused("height(0, 1, 1, true)", FULL)
                .taken("height(0, 0, 5, true)", 1);
            promise(4, "if it was there already: as many as before (a MASTER, CORE)", four)
                .taken("height(0, 1, 0, true)", 4).taken("height(0, 1, 9, true)", 4);
            promise(4, "goes, or was not there, with as many as its MOST", four)
                .taken("height(0, 1, 9, false)", 3).then("heightAt(0, 1, 2)", 4).then("heightAt(0, 1, 3)", PLACE)
                .taken("height(0, 1, 8, false)", 4);
            promise(4, "FULL no more, when one went", four, "height(0, 1, 0, false)").taken("height(0, 1, 8, true)", 4);
        }
    }

    private static void heightOfNone() {
        promise(4, "MOST of a BLIND 0 (none can be put): FULL", "cylinder(3, 2)")
            .refused("height(0, 0, 0, true)", FULL).refused("height(0, 1, 9, true)", FULL);
        promise(4, "goes from a BLIND's CHAMBER: as many as before", "cylinder(3, 2)")
            .taken("height(0, 1, 9, false)", 0);
        promise(4, "PLACE ahead of FULL", "cylinder(3, 2); cylinder(0, 1); height(1, 0, 1, true)")
            .refused("height(0, 2, 0, true)", PLACE).refused("height(0, -1, 0, true)", PLACE)
            .refused("height(1, 1, 2, true)", PLACE);
    }

    private static void heightFindings() {
        String out = FIVE + "; takeCore(2)";
        promise(4, "KIND (a DOUBLE), ahead of PLACE", FIVE, "twin(NONE, NONE)")
            .refused("height(4, 0, 1, true)", KIND).refused("height(4, 2, 1, true)", KIND)
            .refused("height(4, -1, 1, false)", KIND).refused("height(5, 0, 1, true)", KIND);
        promise(4, "NOTHING, ahead of PLACE", out)
            .refused("height(2, 0, 1, true)", NOTHING).refused("height(2, 0, 1, false)", NOTHING)
            .refused("height(2, 2, 1, true)", NOTHING).refused("height(2, -1, 1, true)", NOTHING);
        promise(4, "BAD ahead of KIND, NOTHING, PLACE", out)
            .refused("height(4, 0, 10, true)", BAD).refused("height(2, 0, -1, true)", BAD)
            .refused("height(0, 2, 10, true)", BAD).refused("height(0, -1, 10, false)", BAD);
    }

    private static void heightAt() {
        String shop = "cylinder(1, 18); height(0, 17, 9, true); height(0, 17, 0, true); height(0, 17, 4, true); "
            + "height(0, 0, 6, true)";
        promise(5, "HEIGHT i (the lowest one: 0)", shop)
            .asked("heightAt(0, 17, 0)", 0).asked("heightAt(0, 17, 1)", 4).asked("heightAt(0, 17, 2)", 9)
            .asked("heightAt(0, 0, 0)", 6);
        promise(5, "PLACE (i)", shop)
            .refused("heightAt(0, 17, 3)", PLACE).refused("heightAt(0, 17, -1)", PLACE)
            .refused("heightAt(0, 0, 1)", PLACE).refused("heightAt(0, 0, -1)", PLACE)
            .refused("heightAt(0, 17, LEAST)", PLACE).refused("heightAt(0, 17, GREATEST)", PLACE);
        promise(5, "HEIGHT i: all four", shop, "height(0, 17, 5, true)")
            .asked("heightAt(0, 17, 2)", 5).asked("heightAt(0, 17, 3)", 9).refused("heightAt(0, 17, 4)", PLACE);
        promise(5, "PLACE (CHAMBER)", shop)
            .refused("heightAt(0, 18, 0)", PLACE).refused("heightAt(0, -1, 0)", PLACE)
            .refused("heightAt(0, LEAST, 0)", PLACE).refused("heightAt(0, GREATEST, 0)", PLACE);
        promise(5, "PLACE (CHAMBER): without CHAMBERS", "cylinder(3, 0)").refused("heightAt(0, 0, 0)", PLACE);
        promise(5, "BAD: CYLINDER", shop)
            .refused("heightAt(-1, 0, 0)", BAD).refused("heightAt(1, 0, 0)", BAD)
            .refused("heightAt(LEAST, 0, 0)", BAD).refused("heightAt(GREATEST, 0, 0)", BAD);
    }

    private static void heightAtFindings() {
        String out = FIVE + "; takeCore(2)";
        promise(5, "KIND, ahead of PLACE", FIVE)
            .refused("heightAt(4, 0, 0)", KIND).refused("heightAt(4, 2, 0)", KIND).refused("heightAt(4, -1, -1)", KIND);
        promise(5, "NOTHING, ahead of PLACE (CHAMBER)", out)
            .refused("heightAt(2, 0, 0)", NOTHING).refused("heightAt(2, 2, 0)", NOTHING);
        promise(5, "PLACE (CHAMBER), ahead of NOTHING (it is EMPTY)", FIVE)
            .refused("heightAt(0, 2, 0)", PLACE).refused("heightAt(0, -1, 0)", PLACE);
        promise(5, "NOTHING (it is EMPTY), ahead of PLACE (i)", FIVE)
            .refused("heightAt(0, 1, 0)", NOTHING).refused("heightAt(1, 0, 4)", NOTHING)
            .refused("heightAt(2, 1, -1)", NOTHING).refused("heightAt(3, 0, 0)", NOTHING)
            .refused("heightAt(3, 1, GREATEST)", NOTHING);
    }

    private static void takeCore() {
        promise(6, "how many CHAMBERS", "cylinder(2, 0)")
            .taken("takeCore(0)", 0).then("told(9)", 0).then("chambers(0)", NOTHING);
        promise(6, "how many CHAMBERS", "cylinder(2, 18); height(0, 17, 4, true)")
            .taken("takeCore(0)", 18).then("told(9)", 18).then("chambers(0)", NOTHING);
        promise(6, "it is empty at first", "cylinder(2, 1)").asked("told(9)", NONE);
        promise(6, "what lay there is gone", "cylinder(2, 5); cylinder(2, 0); height(0, 4, 3, true); takeCore(0)")
            .taken("takeCore(1)", 0).then("told(9)", 0).then("putCore(0)", 0).then("putCore(1)", 0);
        promise(6, "what lay there is gone",
            "cylinder(2, 1); cylinder(2, 5); height(0, 0, 3, true); height(1, 4, 8, true); takeCore(0)")
            .taken("takeCore(1)", 5).then("told(9)", 5).then("putCore(0)", 5);
        promise(6, "the row that comes out is that of the CORE",
            "cylinder(2, 1); cylinder(2, 5); height(0, 0, 3, true); height(1, 4, 8, true); takeCore(0); takeCore(1)")
            .taken("putCore(0)", 5).then("heightAt(0, 4, 0)", 8).then("heightAt(0, 0, 0)", NOTHING)
            .then("chambers(1)", NOTHING);
    }

    private static void takeCoreFindings() {
        promise(6, "BAD", FIVE)
            .refused("takeCore(-1)", BAD).refused("takeCore(5)", BAD)
            .refused("takeCore(LEAST)", BAD).refused("takeCore(GREATEST)", BAD);
        promise(6, "KIND", FIVE)
            .refused("takeCore(0)", KIND).refused("takeCore(1)", KIND)
            .refused("takeCore(3)", KIND).refused("takeCore(4)", KIND).taken("takeCore(2)", 2);
        promise(6, "KIND: a DOUBLE of a CORE is none", FIVE, "twin(2, NONE)").refused("takeCore(5)", KIND);
        promise(6, "NOTHING", FIVE, "height(2, 1, 7, true); takeCore(2)")
            .refused("takeCore(2)", NOTHING).then("told(9)", 2);
        promise(6, "NOTHING, also with an empty TRAY", "cylinder(2, 1); cylinder(2, 2); takeCore(0); takeCore(1); "
            + "putCore(0)")
            .refused("takeCore(1)", NOTHING).then("told(9)", NONE);
    }

    private static void putCore() {
        String out = "cylinder(2, 3); cylinder(2, 0); height(0, 2, 9, true); takeCore(0)";
        promise(7, "THE TRAY is empty: how many CHAMBERS", out)
            .taken("putCore(0)", 3).then("told(9)", NONE).then("heightAt(0, 2, 0)", 9).then("chambers(0)", 3);
        promise(7, "a row without CHAMBERS", "cylinder(2, 0); takeCore(0)")
            .taken("putCore(0)", 0).then("told(9)", NONE).then("chambers(0)", 0);
        promise(7, "a row of 18 CHAMBERS", "cylinder(2, 18); height(0, 17, 9, true); takeCore(0)")
            .taken("putCore(0)", 18).then("heightAt(0, 17, 0)", 9).then("heightAt(0, 16, 0)", NOTHING);
        promise(7, "the row comes into another CORE", "cylinder(2, 3); cylinder(2, 5); height(0, 2, 9, true); "
            + "height(1, 4, 1, true); takeCore(1); takeCore(0)")
            .taken("putCore(1)", 3).then("heightAt(1, 2, 0)", 9).then("heightAt(1, 4, 0)", PLACE)
            .then("chambers(0)", NOTHING);
    }

    private static void putCoreFindings() {
        String out = FIVE + "; takeCore(2)";
        promise(7, "BAD", out)
            .refused("putCore(-1)", BAD).refused("putCore(5)", BAD)
            .refused("putCore(LEAST)", BAD).refused("putCore(GREATEST)", BAD);
        promise(7, "KIND", out)
            .refused("putCore(0)", KIND).refused("putCore(1)", KIND)
            .refused("putCore(3)", KIND).refused("putCore(4)", KIND).taken("putCore(2)", 2);
        promise(7, "KIND ahead of STATE, NOTHING", FIVE).refused("putCore(0)", KIND).refused("putCore(4)", KIND);
        promise(7, "STATE: the CORE is not OUT", out, "cylinder(2, 1)").refused("putCore(5)", STATE);
        promise(7, "STATE ahead of NOTHING", FIVE).refused("putCore(2)", STATE);
        promise(7, "NOTHING: THE TRAY is empty", out, "cylinder(2, 1); takeCore(5); putCore(2)")
            .refused("putCore(5)", NOTHING).refused("putCore(2)", STATE);
    }

    private static void kind() {
        for (int kind = 0; kind <= 4; kind++) {
            promise(8, "KIND of a CYLINDER", FIVE).asked("kind(" + kind + ")", kind);
        }
        promise(8, "KIND of a CORE that is OUT", FIVE, "takeCore(2)").asked("kind(2)", 2);
        promise(8, "BAD", FIVE)
            .refused("kind(-1)", BAD).refused("kind(5)", BAD).refused("kind(LEAST)", BAD)
            .refused("kind(GREATEST)", BAD);
        promise(8, "BAD: of one that was undone", FIVE, "undo()", "blanks(0)")
            .refused("kind(4)", BAD).asked("kind(3)", 3);
    }

    private static void chambers() {
        for (int kind = 0; kind <= 3; kind++) {
            promise(9, "how many CHAMBERS", "cylinder(" + kind + ", 0); cylinder(" + kind + ", 18)")
                .asked("chambers(0)", 0).asked("chambers(1)", 18);
        }
        promise(9, "BAD", FIVE)
            .refused("chambers(-1)", BAD).refused("chambers(5)", BAD)
            .refused("chambers(LEAST)", BAD).refused("chambers(GREATEST)", BAD);
        promise(9, "KIND", FIVE, "twin(NONE, NONE)").refused("chambers(4)", KIND).refused("chambers(5)", KIND);
        promise(9, "NOTHING", FIVE, "takeCore(2)").refused("chambers(2)", NOTHING);
        promise(9, "NOTHING, also where none were", "cylinder(2, 0); takeCore(0)").refused("chambers(0)", NOTHING);
    }

    private static void weight() {
        String empty = "cylinder(0, 0); cylinder(1, 18); cylinder(2, 0); cylinder(3, 18)";
        promise(10, "of a PLAIN, MASTER 10; of a CORE 5 more; of a BLIND as of a PLAIN", empty)
            .asked("weight(0)", 10).asked("weight(1)", 10).asked("weight(2)", 15).asked("weight(3)", 10);
        promise(10, "and its HEIGHTS, all added: 0 adds nothing", "cylinder(0, 2); height(0, 1, 0, true)")
            .asked("weight(0)", 10);
        promise(10, "and its HEIGHTS, all added: the most of a PLAIN", "cylinder(0, 18)",
            Run.times(18, "height(0, #, 9, true)")).asked("weight(0)", 10 + 18 * 9);
        String most = Run.times(18, "height(0, #, 9, true); height(0, #, 8, true); height(0, #, 7, true); "
            + "height(0, #, 6, true)");
        promise(10, "and its HEIGHTS, all added: the most of a MASTER", "cylinder(1, 18)", most)
            .asked("weight(0)", 10 + 18 * 30);
        promise(10, "the most of a CORE, and of a DOUBLE of it twice", "cylinder(2, 18)", most, "twin(0, 0)")
            .asked("weight(0)", 15 + 18 * 30).asked("weight(1)", 2 * (15 + 18 * 30));
        promise(10, "of a DOUBLE both added (none there counts 0)", empty,
            "twin(NONE, NONE); twin(0, NONE); twin(NONE, 2); twin(2, 3)")
            .asked("weight(4)", 0).then("told(8)", 1).then("trace(0)", 7)
            .asked("weight(5)", 10).asked("weight(6)", 15).asked("weight(7)", 25);
        promise(10, "BAD", empty)
            .refused("weight(-1)", BAD).refused("weight(4)", BAD)
            .refused("weight(LEAST)", BAD).refused("weight(GREATEST)", BAD);
    }

    private static void weightMeetsNothing() {
        String out = "cylinder(0, 1); cylinder(2, 1); twin(1, 0); twin(0, 1); twin(1, 1); twin(1, NONE); "
            + "twin(NONE, 1); takeCore(1)";
        promise(10, "NOTHING (a CORE that is OUT)", out)
            .refused("weight(1)", NOTHING).then("told(8)", 2).then("trace(0)", 6).then("trace(1)", 5);
        promise(10, "OUT: NOTHING, also as half of a DOUBLE", out)
            .refused("weight(2)", NOTHING).then("told(8)", 3).refused("weight(3)", NOTHING).then("told(8)", 4)
            .refused("weight(4)", NOTHING).then("told(8)", 3).refused("weight(5)", NOTHING).then("told(8)", 3)
            .refused("weight(6)", NOTHING).then("told(8)", 3);
        promise(10, "NOTHING no more, when it is back", out, "putCore(1)")
            .asked("weight(1)", 15).asked("weight(2)", 25);
    }
}
