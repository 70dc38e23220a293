/** Promises 16 to 19, and what "Terms" says of TO TURN: the sentences that name a boundary case. */
public final class TurningBoundsTest {
    private static final Due DUE = new Due("TurningBoundsTest");
    private static final int NONE = Bounds.NONE, BAD = Bounds.BAD, NOTHING = Bounds.NOTHING, PLACE = Bounds.PLACE;
    /** KEYS of 18, of 2 and of no CUTS. */
    private static final String KEYS = "blanks(3); key(18, 444444444444444444); key(2, 44); key(0, 0); ";

    public static void main(String[] args) {
        emptyChambers();
        heights();
        keyIsTooShort();
        blind();
        halves();
        secondHalf();
        halfIsMissing();
        out();
        shorterRow();
        turnRefusals();
        opens();
        opensRefusals();
        turnAll();
        turnAllFindings();
        turnAllRefusals();
        at();
        atStays();
        DUE.end();
    }

    private static Bounds promise(int number, String sentence, String... shop) {
        return new Bounds(DUE, "promise " + number + ": " + sentence, shop);
    }

    private static void emptyChambers() {
        for (int kind = 0; kind <= 2; kind++) {
            int entries = kind == 0 ? 1 : 2;
            promise(16, "where none BARS it OPENS, also without CHAMBERS", KEYS + "cylinder(" + kind + ", 0)")
                .asked("turn(2, 0)", 1).then("at()", NONE).then("told(8)", entries).asked("turn(0, 0)", 1);
            promise(16, "a CHAMBER that is EMPTY lets it pass, also behind its last CUT", KEYS + "cylinder(" + kind
                + ", 18)")
                .asked("turn(2, 0)", 1).then("at()", NONE).asked("turn(1, 0)", 1).asked("turn(0, 0)", 1);
            promise(16, "a CHAMBER that is EMPTY again lets it pass",
                KEYS + "cylinder(" + kind + ", 1); height(0, 0, 5, true); height(0, 0, 5, false)")
                .asked("turn(1, 0)", 1).asked("turn(2, 0)", 1);
        }
    }

    private static void heights() {
        String last = KEYS + "cylinder(0, 18); height(0, 17, ";
        promise(16, "it lets pass what is among its HEIGHTS", last + "4, true)")
            .asked("turn(0, 0)", 1).then("at()", NONE);
        promise(16, "the first one that does not BARS: the last CHAMBER", last + "3, true)")
            .asked("turn(0, 0)", 0).then("at()", 17).then("finding()", 0);
        promise(16, "the first one that does not BARS: of two", last + "5, true); height(0, 0, 5, true)")
            .asked("turn(0, 0)", 0).then("at()", 0).asked("turn(1, 0)", 0).then("at()", 0);
        String four = "cylinder(1, 1); height(0, 0, 9, true); height(0, 0, 5, true); height(0, 0, 0, true); "
            + "height(0, 0, 3, true)";
        promise(16, "among its HEIGHTS: four, without that", KEYS + four).asked("turn(0, 0)", 0).then("at()", 0);
        promise(16, "among its HEIGHTS: four, with that", KEYS + four, "height(0, 0, 5, false); height(0, 0, 4, true)")
            .asked("turn(0, 0)", 1).then("at()", NONE);
        promise(16, "CUTS 0 and 9", "blanks(2); key(2, 90); key(2, 9); cylinder(1, 2); height(0, 0, 0, true); "
            + "height(0, 1, 9, true)")
            .asked("turn(0, 0)", 1).asked("turn(1, 0)", 0).then("at()", 0);
    }

    private static void keyIsTooShort() {
        promise(16, "PLACE: a KEY that has no CUT at a CHAMBER that is not EMPTY", KEYS + "cylinder(0, 3); "
            + "height(0, 2, 4, true)")
            .refused("turn(1, 0)", PLACE).then("at()", 2).then("trace(0)", 1).then("told(8)", 1)
            .refused("turn(2, 0)", PLACE).then("at()", 2).asked("turn(0, 0)", 1);
        promise(16, "the last CUT is at the last CHAMBER", KEYS + "cylinder(0, 3); height(0, 1, 4, true)")
            .asked("turn(1, 0)", 1);
        promise(16, "what BARS ahead of a PLACE", KEYS + "cylinder(0, 3); height(0, 2, 4, true); height(0, 1, 5, true)")
            .asked("turn(1, 0)", 0).then("at()", 1).refused("turn(2, 0)", PLACE).then("at()", 1);
        promise(16, "PLACE at CHAMBER 17", KEYS + "cylinder(1, 18); height(0, 17, 4, true)")
            .refused("turn(1, 0)", PLACE).then("at()", 17).then("told(8)", 2);
    }

    private static void blind() {
        promise(16, "a BLIND BARS at 0 without a look (also without CHAMBERS)", KEYS + "cylinder(3, 0); "
            + "cylinder(3, 18)")
            .asked("turn(0, 0)", 0).then("at()", 0).then("told(8)", 1).then("trace(0)", 3)
            .asked("turn(2, 0)", 0).then("at()", 0).then("finding()", 0).asked("turn(0, 1)", 0).then("at()", 0)
            .asked("turn(2, 1)", 0).then("at()", 0);
    }

    private static void halves() {
        String shop = KEYS + "cylinder(0, 18); cylinder(0, 1); twin(0, 1); twin(1, 0); twin(1, 1); "
            + "height(0, 17, 5, true)";
        promise(16, "of a DOUBLE the first one is turned: it BARS", shop)
            .asked("turn(0, 2)", 0).then("at()", 17).then("told(8)", 2).then("trace(0)", 4).then("trace(1)", 1);
        promise(16, "where that OPENS, the second one, its CHAMBERS counting from 18 on", shop)
            .asked("turn(0, 3)", 0).then("at()", 35).then("told(8)", 3);
        promise(16, "where both OPEN", shop).asked("turn(0, 4)", 1).then("at()", NONE).then("told(8)", 3);
        promise(16, "one twice", shop, "height(1, 0, 4, true)")
            .asked("turn(0, 4)", 1).refused("turn(2, 4)", PLACE).then("at()", 0);
        promise(16, "PLACE of the first one", shop).refused("turn(1, 2)", PLACE).then("at()", 17).then("told(8)", 2);
    }

    private static void secondHalf() {
        String shop = "blanks(2); key(2, 21); key(1, 1); cylinder(0, 2); cylinder(0, 2); twin(0, 1); "
            + "height(1, 0, 1, true)";
        promise(16, "from 18 on for AT alone: the CUTS are looked at from 0 on", shop)
            .asked("turn(0, 2)", 1).asked("turn(1, 2)", 1);
        promise(16, "from 18 on for AT: CHAMBER 0 of the second one", shop, "height(1, 0, 1, false); "
            + "height(1, 0, 2, true)")
            .asked("turn(0, 2)", 0).then("at()", 18);
        promise(16, "from 18 on for AT: a PLACE", shop, "height(1, 1, 2, true)")
            .refused("turn(1, 2)", PLACE).then("at()", 19).asked("turn(0, 2)", 1);
        promise(16, "a BLIND as the second one", "blanks(1); key(0, 0); cylinder(0, 0); cylinder(3, 0); twin(0, 1); "
            + "twin(1, 0)")
            .asked("turn(0, 2)", 0).then("at()", 18).then("told(8)", 3).then("trace(2)", 3)
            .asked("turn(0, 3)", 0).then("at()", 0).then("told(8)", 2);
    }

    private static void halfIsMissing() {
        String shop = KEYS + "cylinder(0, 1); cylinder(3, 0); twin(NONE, 0); twin(0, NONE); twin(1, NONE); "
            + "twin(NONE, NONE); " + "twin(NONE, 1); height(0, 0, 4, true)";
        promise(16, "NOTHING: half a DOUBLE, the first one", shop)
            .refused("turn(0, 2)", NOTHING).then("at()", NONE).then("told(8)", 1).then("trace(0)", 4)
            .refused("turn(0, 6)", NOTHING).then("told(8)", 1);
        promise(16, "NOTHING: half a DOUBLE, the second one, where the first one OPENS", shop)
            .refused("turn(0, 3)", NOTHING).then("at()", NONE).then("told(8)", 2);
        promise(16, "half a DOUBLE, where the first one does not OPEN", shop)
            .asked("turn(0, 4)", 0).then("at()", 0).then("finding()", 0).refused("turn(2, 3)", PLACE).then("at()", 0);
        promise(16, "NOTHING: a DOUBLE of none", shop).refused("turn(0, 5)", NOTHING).then("told(8)", 1);
    }

    private static void out() {
        String shop = KEYS + "cylinder(2, 1); cylinder(0, 0); cylinder(3, 0); twin(0, 1); twin(1, 0); twin(2, 0); "
            + "height(0, 0, 5, true); takeCore(0)";
        promise(16, "NOTHING: a CORE that is OUT", shop)
            .refused("turn(0, 0)", NOTHING).then("at()", NONE).then("told(8)", 2).then("trace(0)", 2)
            .then("trace(1)", 1);
        promise(16, "NOTHING: a CORE that is OUT, as half of a DOUBLE", shop)
            .refused("turn(0, 3)", NOTHING).then("told(8)", 3).refused("turn(0, 4)", NOTHING).then("told(8)", 4)
            .then("trace(2)", 2).then("trace(3)", 1).then("at()", NONE);
        promise(16, "what BARS ahead of a CORE that is OUT", shop)
            .asked("turn(0, 5)", 0).then("at()", 0).then("told(8)", 2);
        promise(16, "a CORE that is OUT, of no CHAMBERS", KEYS + "cylinder(2, 0); takeCore(0)")
            .refused("turn(2, 0)", NOTHING);
        promise(16, "a CORE that is back", shop, "putCore(0)").asked("turn(0, 0)", 0).then("at()", 0);
    }

    /** CORE 1 had HEIGHTS behind the row of CORE 0 that it has now. */
    private static void shorterRow() {
        String shop = KEYS + "cylinder(2, 2); cylinder(2, 5); door(); fit(0, 1); cabinet(2, 1); put(0, 0, 1); "
            + Run.times(5, "height(1, #, 5, true)") + "takeCore(1); takeCore(0); putCore(1)";
        promise(16, "its CHAMBERS are gone over: those of the row that came in alone", shop)
            .asked("turn(2, 1)", 1).then("at()", NONE).asked("turn(0, 1)", 1).asked("opens(1, 0)", 1)
            .asked("turnAll(0, 2)", 1).asked("weight(1)", 15).asked("count(0, 0, 9)", 1)
            .refused("heightAt(1, 2, 0)", PLACE).refused("heightAt(1, 0, 0)", NOTHING);
    }

    private static void turnRefusals() {
        String shop = KEYS + "cylinder(3, 1); turn(0, 0)";
        promise(16, "BAD", shop)
            .refused("turn(-1, 0)", BAD).refused("turn(3, 0)", BAD).refused("turn(0, -1)", BAD)
            .refused("turn(0, 1)", BAD).refused("turn(LEAST, 0)", BAD).refused("turn(GREATEST, 0)", BAD)
            .refused("turn(0, LEAST)", BAD).refused("turn(0, GREATEST)", BAD);
        promise(16, "BAD: no KEY, no CYLINDER").refused("turn(0, 0)", BAD);
        promise(16, "a KEY that is lent or LOST is TURNED, too", KEYS + "cylinder(0, 1); person(); lend(0, 0); lose(1)")
            .asked("turn(0, 0)", 1).asked("turn(1, 0)", 1);
    }

    private static void opens() {
        String shop = KEYS + "cylinder(0, 3); " + Run.times(40, "door()") + "fit(39, 0); height(0, 2, 4, true)";
        promise(17, "a KEY is TURNED in a DOOR's CYLINDER: as turn()", shop)
            .asked("opens(0, 39)", 1).then("at()", NONE).then("told(8)", 1)
            .refused("opens(1, 39)", PLACE).then("at()", 2);
        promise(17, "as turn(): 0 something BARS", shop, "height(0, 0, 5, true)")
            .asked("opens(0, 39)", 0).then("at()", 0);
        promise(17, "NOTHING: a DOOR's CYLINDER", shop)
            .refused("opens(0, 38)", NOTHING).then("at()", NONE).then("told(8)", 0).then("trace(0)", NONE);
        promise(17, "NOTHING: it has none any more", shop, "fit(39, NONE)").refused("opens(0, 39)", NOTHING);
        promise(17, "NOTHING: half a DOUBLE, OUT", KEYS, "cylinder(2, 0); twin(NONE, 0); door(); door(); fit(0, 0); "
            + "fit(1, 1); takeCore(0)")
            .refused("opens(0, 0)", NOTHING).then("told(8)", 2).refused("opens(0, 1)", NOTHING).then("told(8)", 1);
    }

    private static void opensRefusals() {
        String shop = KEYS + "cylinder(3, 1); door(); fit(0, 0); opens(0, 0)";
        promise(17, "BAD", shop)
            .refused("opens(-1, 0)", BAD).refused("opens(3, 0)", BAD).refused("opens(0, -1)", BAD)
            .refused("opens(0, 1)", BAD).refused("opens(LEAST, 0)", BAD).refused("opens(GREATEST, 0)", BAD)
            .refused("opens(0, LEAST)", BAD).refused("opens(0, GREATEST)", BAD);
        promise(17, "BAD: ahead of NOTHING", shop, "fit(0, NONE)").refused("opens(3, 0)", BAD);
    }

    private static void turnAll() {
        String shop = KEYS + "cylinder(1, 1); cylinder(1, 1); height(0, 0, 4, true); height(1, 0, 5, true); "
            + "cabinet(0, 20); " + Run.times(20, "put(0, #, 0)") + "cabinet(0, 0)";
        promise(18, "how many OPENED: no places", shop).asked("turnAll(1, 0)", 0).then("at()", NONE).then("told(8)", 0);
        promise(18, "how many OPENED: all", shop).asked("turnAll(0, 0)", 20).then("at()", NONE).then("told(8)", 40);
        promise(18, "up to one that does not OPEN: the last", shop, "put(0, 19, 1)")
            .asked("turnAll(0, 0)", 19).then("at()", 0).then("told(8)", 40).then("finding()", 0);
        promise(18, "up to one that does not OPEN: the first", shop, "put(0, 0, 1)")
            .asked("turnAll(0, 0)", 0).then("at()", 0).then("told(8)", 2);
        promise(18, "up to one that does not OPEN: those behind are not turned", shop, "put(0, 3, 1); put(0, 4, NONE)")
            .asked("turnAll(0, 0)", 3).then("told(8)", 8).then("finding()", 0);
        promise(18, "a DOUBLE counts 1", KEYS + "cylinder(0, 1); twin(0, 0); cabinet(4, 2); put(0, 0, 1); put(0, 1, 1)")
            .asked("turnAll(0, 0)", 2).then("told(8)", 6);
    }

    private static void turnAllFindings() {
        String shop = KEYS + "cylinder(1, 3); cylinder(2, 3); cylinder(3, 0); cabinet(0, 3); put(0, 0, 0); "
            + "put(0, 1, 1); put(0, 2, 2)";
        promise(18, "NOTHING (an empty place, too): the first", shop, "put(0, 0, NONE)")
            .refused("turnAll(0, 0)", NOTHING).then("at()", NONE).then("told(8)", 0);
        promise(18, "a FINDING behind some that did is the answer: an empty place", shop, "put(0, 2, NONE)")
            .refused("turnAll(0, 0)", NOTHING).then("at()", NONE).then("told(8)", 4);
        promise(18, "a FINDING behind some that did is the answer: OUT", shop, "takeCore(1)")
            .refused("turnAll(0, 0)", NOTHING).then("at()", NONE).then("told(8)", 4);
        promise(18, "a FINDING behind some that did is the answer: PLACE", shop, "height(1, 2, 4, true)")
            .refused("turnAll(0, 1)", PLACE).then("at()", 2).then("told(8)", 4)
            .asked("turnAll(0, 0)", 2).then("at()", 0);
        promise(18, "PLACE of the first", shop, "height(0, 0, 4, true)")
            .refused("turnAll(0, 2)", PLACE).then("at()", 0);
    }

    private static void turnAllRefusals() {
        String shop = KEYS + Run.times(11, "cabinet(0, 0)") + "cabinet(0, 1); cylinder(3, 0); put(11, 0, 0); "
            + "turnAll(11, 0)";
        promise(18, "BAD", shop)
            .refused("turnAll(-1, 0)", BAD).refused("turnAll(12, 0)", BAD)
            .refused("turnAll(11, -1)", BAD).refused("turnAll(11, 3)", BAD)
            .refused("turnAll(LEAST, 0)", BAD).refused("turnAll(GREATEST, 0)", BAD)
            .refused("turnAll(11, LEAST)", BAD).refused("turnAll(11, GREATEST)", BAD).asked("turnAll(11, 2)", 0);
        promise(18, "BAD ahead of NOTHING", shop, "put(11, 0, NONE)").refused("turnAll(11, 3)", BAD);
    }

    private static void at() {
        String rows = KEYS + "cylinder(0, 18); cylinder(0, 18); twin(1, 0); door(); fit(0, 2); cabinet(0, 2); "
            + "put(0, 0, 1); put(0, 1, 0)";
        for (int chamber = 0; chamber < 18; chamber++) {
            String barred = "height(0, " + chamber + ", 7, true)";
            promise(19, "AT: the CHAMBER that BARRED, or at which a PLACE was met", rows, barred, "turn(0, 0)")
                .asked("at()", chamber);
            promise(19, "AT, of a DOUBLE counted as told", rows, barred, "opens(0, 0)").asked("at()", 18 + chamber);
            promise(19, "AT, of the last CYLINDER that was turned", rows, barred, "turnAll(0, 0)")
                .asked("at()", chamber);
        }
        promise(19, "AT: NONE else", rows, "height(0, 5, 7, true); turn(0, 0); turn(0, 1)").asked("at()", NONE);
        promise(19, "AT: NONE else (a NOTHING)", rows, "height(0, 5, 7, true); turn(0, 0); fit(0, NONE); "
            + "opens(0, 0) = -11")
            .asked("at()", NONE);
        promise(19, "AT: NONE else (no places)", rows, "height(0, 5, 7, true); turn(0, 0); cabinet(0, 0); "
            + "turnAll(1, 0)")
            .asked("at()", NONE);
    }

    private static void atStays() {
        String barred = KEYS + "cylinder(0, 6); cylinder(0, 0); door(); fit(0, 1); height(0, 5, 7, true); turn(0, 0)";
        promise(19, "AT, of the latest that was not BAD", barred, "turn(3, 0) = -2; opens(0, 1) = -2; "
            + "turnAll(0, 0) = -2")
            .asked("at()", 5);
        promise(19, "AT, of turn(), opens(), turnAll() alone", barred, "weight(1); endangered(0); carry(1); closed(1); "
            + "count(0, 1, 1); cut(0, 0); blanks(1)").asked("at()", 5);
        promise(19, "AT stays with undo()", barred, "undo()", "blanks(0)").asked("at()", 5);
        promise(19, "AT with weight() of what is not there", barred, "cylinder(2, 1); takeCore(2); weight(2) = -11")
            .asked("at()", 5);
        promise(19, "AT of a KEY that is cut by work() stays", barred, "cylinder(0, 1); fit(0, 2); work(1, 1, 1, 9)")
            .asked("at()", 5);
    }
}
