/** Promises 31 to 34, and what "Terms" says of TO CUT and ANEW: the sentences that name a boundary case. */
public final class WorkBoundsTest {
    private static final Due DUE = new Due("WorkBoundsTest");
    private static final int NONE = Bounds.NONE, BAD = Bounds.BAD, STATE = Bounds.STATE, UNKNOWN = Bounds.UNKNOWN;
    private static final int LOST = Bounds.LOST;
    private static final int NOTHING = Bounds.NOTHING, PLACE = Bounds.PLACE, KIND = Bounds.KIND;
    /** HEIGHTS of three MASTERS that let pass, in CHAMBER 0, all CUTS but 9 between them. */
    private static final String ALL_BUT_9 = four(0, 0, 0) + four(1, 0, 4) + "height(2, 0, 8, true); ";

    public static void main(String[] args) {
        wish();
        wishRefusals();
        workSizes();
        workStates();
        workDoorByDoor();
        workDoorsInOrder();
        cutsInOrder();
        cutsKeepStep();
        cutsKeepMost();
        cutsAreUnlike();
        nevers();
        neversOfDoorsThatChange();
        lentAndLostAreCut();
        heightsThen();
        firstKeysAndDoorsAlone();
        lastTrial();
        nothingStands();
        searchesBehindOthers();
        anewSizes();
        anewStates();
        anewDoorByDoor();
        lostKeepsItsCuts();
        lostShallOpenNone();
        lostShallNever();
        lostHasNoWishes();
        noOtherHasItsCuts();
        lostAlone();
        lastTrialOfAnew();
        trials();
        DUE.end();
    }

    private static Bounds promise(int number, String sentence, String... shop) {
        return new Bounds(DUE, "promise " + number + ": " + sentence, shop);
    }

    /** KEYS of n sevens without a BLANK left, and DOORS with a CYLINDER of their own, all of one KIND. */
    private static String shop(int keys, int doors, int kind, int n) {
        return "blanks(" + keys + "); " + Run.times(keys, "key(" + n + ", 77777)")
            + Run.times(doors, "cylinder(" + kind + ", " + n + "); door(); fit(#, #)");
    }

    /** HEIGHTS from the lowest one on, four of them. */
    private static String four(int cylinder, int chamber, int lowest) {
        return heights(cylinder, chamber, lowest, lowest + 3);
    }

    private static String heights(int cylinder, int chamber, int lowest, int highest) {
        StringBuilder calls = new StringBuilder();
        for (int height = lowest; height <= highest; height++) {
            calls.append("height(" + cylinder + ", " + chamber + ", " + height + ", true); ");
        }
        return calls.toString();
    }

    private static void wish() {
        String shop = shop(1, 2, 1, 1);
        promise(31, "becomes 0 none, 1 OPEN, 2 NEVER: what it was (none at first)", shop)
            .taken("wish(0, 0, 0)", 0).then("wish(0, 0, 0)", 0)
            .taken("wish(0, 0, 1)", 0).then("wish(0, 0, 0)", 1).then("wish(0, 1, 0)", 0)
            .taken("wish(0, 0, 2)", 0).then("wish(0, 0, 0)", 2);
        promise(31, "what it was: OPEN", shop, "wish(0, 1, 1)")
            .taken("wish(0, 1, 0)", 1).then("wish(0, 1, 0)", 0).taken("wish(0, 1, 1)", 1).then("wish(0, 1, 1)", 1)
            .taken("wish(0, 1, 2)", 1).then("wish(0, 1, 2)", 2);
        promise(31, "what it was: NEVER", shop, "wish(0, 1, 2)")
            .taken("wish(0, 1, 0)", 2).then("wish(0, 1, 0)", 0).taken("wish(0, 1, 1)", 2).then("wish(0, 1, 1)", 1)
            .taken("wish(0, 1, 2)", 2).then("wish(0, 1, 2)", 2);
        String all = "blanks(100); " + Run.times(100, "key(0, 0)") + Run.times(40, "door()");
        promise(31, "for the last KEY and the last DOOR", all)
            .taken("wish(99, 39, 2)", 0).then("wish(99, 39, 0)", 2).then("wish(99, 7, 0)", 0).then("wish(98, 39, 0)", 0)
            .taken("wish(99, 32, 1)", 0).then("wish(99, 32, 0)", 1).then("wish(99, 0, 0)", 0)
            .taken("wish(0, 31, 1)", 0).then("wish(0, 31, 0)", 1).then("wish(0, 32, 0)", 0).then("wish(0, 39, 0)", 0);
    }

    private static void wishRefusals() {
        String shop = shop(2, 2, 1, 1) + "wish(1, 1, 2)";
        promise(31, "BAD: what", shop)
            .refused("wish(1, 1, -1)", BAD).then("wish(1, 1, 0)", 2)
            .refused("wish(1, 1, 3)", BAD).then("wish(1, 1, 0)", 2).refused("wish(1, 1, LEAST)", BAD)
            .refused("wish(1, 1, GREATEST)", BAD);
        promise(31, "BAD: KEY, DOOR", shop)
            .refused("wish(-1, 0, 1)", BAD).refused("wish(2, 0, 1)", BAD).refused("wish(0, -1, 1)", BAD)
            .refused("wish(0, 2, 1)", BAD).refused("wish(LEAST, 0, 1)", BAD).refused("wish(GREATEST, 0, 1)", BAD)
            .refused("wish(0, LEAST, 1)", BAD).refused("wish(0, GREATEST, 1)", BAD);
    }

    private static void workSizes() {
        String five = shop(7, 7, 1, 5);
        promise(32, "k 1 to 6", five)
            .taken("work(1, 1, 5, 9)", 1).then("trials()", 5).then("cut(1, 0)", 7)
            .taken("work(6, 1, 5, 9)", 1).then("trials()", 5 + 6 + 7 + 8 + 9 + 10).then("cut(5, 4)", 5)
            .then("cut(6, 0)", 7).refused("work(0, 1, 5, 9)", BAD).refused("work(7, 1, 5, 9)", BAD)
            .refused("work(-1, 1, 5, 9)", BAD).refused("work(LEAST, 1, 5, 9)", BAD)
            .refused("work(GREATEST, 1, 5, 9)", BAD);
        promise(32, "d 1 to 6", five)
            .taken("work(1, 6, 5, 9)", 1).refused("work(1, 0, 5, 9)", BAD).refused("work(1, 7, 5, 9)", BAD)
            .refused("work(1, -1, 5, 9)", BAD).refused("work(1, LEAST, 5, 9)", BAD)
            .refused("work(1, GREATEST, 5, 9)", BAD);
        promise(32, "n 1 to 5", shop(1, 1, 1, 1)).taken("work(1, 1, 1, 9)", 1).then("trials()", 1).then("length(0)", 1);
        promise(32, "n 1 to 5, else BAD: also if there are so many CHAMBERS", shop(1, 1, 1, 6))
            .refused("work(1, 1, 6, 9)", BAD);
        promise(32, "n 1 to 5, else BAD: also if there are no CHAMBERS", shop(1, 1, 1, 0))
            .refused("work(1, 1, 0, 9)", BAD).refused("work(1, 1, -1, 9)", BAD)
            .refused("work(1, 1, LEAST, 9)", BAD).refused("work(1, 1, GREATEST, 9)", BAD);
        promise(32, "STEP 0 to 9", five)
            .taken("work(1, 1, 5, 0)", 1).taken("work(6, 6, 5, 9)", 1).refused("work(1, 1, 5, -1)", BAD)
            .refused("work(1, 1, 5, 10)", BAD).refused("work(1, 1, 5, LEAST)", BAD)
            .refused("work(1, 1, 5, GREATEST)", BAD);
    }

    private static void workStates() {
        String shop = shop(5, 5, 1, 2);
        promise(32, "STATE: there are not so many KEYS, DOORS", shop)
            .taken("work(5, 5, 2, 9)", 1).refused("work(6, 5, 2, 9)", STATE).refused("work(5, 6, 2, 9)", STATE);
        promise(32, "STATE: there are none", "person()").refused("work(1, 1, 1, 0)", STATE);
        promise(32, "STATE: there are DOORS alone", shop(0, 1, 1, 1)).refused("work(1, 1, 1, 0)", STATE);
        promise(32, "STATE: there are KEYS alone", shop(1, 0, 1, 1)).refused("work(1, 1, 1, 0)", STATE);
        promise(32, "BAD ahead of STATE", shop)
            .refused("work(7, 5, 2, 9)", BAD).refused("work(6, 5, 6, 9)", BAD).refused("work(6, 5, 2, 10)", BAD)
            .refused("work(5, 6, 0, 9)", BAD);
        promise(32, "STATE ahead of what the DOORS meet", shop, "fit(0, NONE)")
            .refused("work(6, 5, 2, 9)", STATE).refused("work(5, 6, 2, 9)", STATE).refused("work(5, 5, 2, 9)", NOTHING)
            .refused("work(5, 5, 6, 9)", BAD);
    }

    private static void workDoorByDoor() {
        String shop = shop(1, 3, 2, 2) + "twin(0, 1); cylinder(1, 1); cylinder(1, 3); cylinder(3, 2); cylinder(3, 0); ";
        promise(32, "NOTHING (no CYLINDER)", shop, "fit(2, NONE)")
            .refused("work(1, 3, 2, 9)", NOTHING).taken("work(1, 2, 2, 9)", 1);
        promise(32, "KIND (a DOUBLE)", shop, "fit(2, 3)")
            .refused("work(1, 3, 2, 9)", KIND).taken("work(1, 2, 2, 9)", 1);
        promise(32, "NOTHING (OUT)", shop, "takeCore(2)")
            .refused("work(1, 3, 2, 9)", NOTHING).taken("work(1, 2, 2, 9)", 1);
        promise(32, "STATE (not n CHAMBERS): too few", shop, "fit(2, 4)")
            .refused("work(1, 3, 2, 9)", STATE).taken("work(1, 2, 2, 9)", 1);
        promise(32, "STATE (not n CHAMBERS): too many", shop, "fit(2, 5)")
            .refused("work(1, 3, 2, 9)", STATE).taken("work(1, 2, 2, 9)", 1);
        promise(32, "STATE (not n CHAMBERS): a BLIND", shop, "fit(2, 7)").refused("work(1, 3, 2, 9)", STATE);
        promise(32, "a BLIND with n CHAMBERS", shop, "fit(2, 6)").taken("work(1, 3, 2, 9)", 1);
        promise(32, "STATE (the CYLINDER of one ahead)", shop, "fit(2, 0)")
            .refused("work(1, 3, 2, 9)", STATE).taken("work(1, 2, 2, 9)", 1);
        promise(32, "STATE (the CYLINDER of one ahead): its neighbour", shop, "fit(2, 1)")
            .refused("work(1, 3, 2, 9)", STATE);
        promise(32, "what the first DOORS meet: the last of six", shop(1, 6, 1, 1), "fit(5, 0)")
            .refused("work(1, 6, 1, 9)", STATE).taken("work(1, 5, 1, 9)", 1);
        promise(32, "KEYS may have other lengths", "blanks(3); key(18, 5); key(0, 0); key(1, 3)", shop(0, 1, 1, 3))
            .taken("work(3, 1, 3, 9)", 1).then("length(0)", 3).then("length(1)", 3).then("length(2)", 3)
            .then("cut(0, 3)", PLACE).then("cut(2, 2)", 2);
    }

    private static void workDoorsInOrder() {
        String shop = shop(1, 3, 2, 2) + "twin(0, 1); cylinder(1, 3); ";
        promise(32, "DOOR by DOOR: STATE ahead of NOTHING", shop, "fit(0, 4); fit(1, NONE)")
            .refused("work(1, 3, 2, 9)", STATE);
        promise(32, "DOOR by DOOR: STATE ahead of KIND", shop, "fit(0, 4); fit(1, 3)")
            .refused("work(1, 3, 2, 9)", STATE);
        promise(32, "DOOR by DOOR: NOTHING ahead of KIND", shop, "fit(0, NONE); fit(1, 3)")
            .refused("work(1, 3, 2, 9)", NOTHING);
        promise(32, "DOOR by DOOR: KIND ahead of NOTHING", shop, "fit(0, 3); fit(1, NONE)")
            .refused("work(1, 3, 2, 9)", KIND);
        promise(32, "DOOR by DOOR: KIND ahead of OUT", shop, "takeCore(1); fit(0, 3)")
            .refused("work(1, 3, 2, 9)", KIND);
        promise(32, "DOOR by DOOR: OUT ahead of KIND", shop, "takeCore(0); fit(1, 3)")
            .refused("work(1, 3, 2, 9)", NOTHING);
        promise(32, "DOOR by DOOR: OUT ahead of STATE", shop, "takeCore(0); fit(1, 4)")
            .refused("work(1, 3, 2, 9)", NOTHING);
        promise(32, "DOOR by DOOR: one ahead, then KIND", shop, "fit(1, 0); fit(2, 3)")
            .refused("work(1, 3, 2, 9)", STATE);
        promise(32, "KIND of a DOUBLE at two DOORS", shop, "fit(1, 3); fit(2, 3)").refused("work(1, 3, 2, 9)", KIND);
        promise(32, "NOTHING of one that is OUT at two DOORS", shop, "takeCore(0); fit(1, 0)")
            .refused("work(1, 3, 2, 9)", NOTHING);
    }

    private static void cutsInOrder() {
        String shop = shop(1, 4, 1, 1) + ALL_BUT_9 + "height(3, 0, 9, true); wish(0, 0, 2); wish(0, 1, 2); "
            + "wish(0, 2, 2); ";
        promise(32, "0 to 9 in order: the last", shop)
            .taken("work(1, 3, 1, 9)", 1).then("trials()", 10).then("cut(0, 0)", 9);
        promise(32, "0 to 9 in order: none", shop, "wish(0, 3, 2)")
            .asked("work(1, 4, 1, 9)", 0).then("trials()", 10).then("cut(0, 0)", 7);
        promise(32, "0 to 9 in order: the first", shop(1, 1, 1, 1))
            .taken("work(1, 1, 1, 9)", 1).then("trials()", 1).then("cut(0, 0)", 0);
        promise(32, "those ahead staying as long as they can", shop(2, 1, 1, 2))
            .taken("work(2, 1, 2, 9)", 1).then("trials()", 5).then("cut(0, 1)", 0).then("cut(1, 0)", 0)
            .then("cut(1, 1)", 1);
    }

    private static void cutsKeepStep() {
        String shop = shop(1, 1, 1, 2) + four(0, 1, 0) + "wish(0, 0, 2)";
        promise(32, "it stands, if it is at most STEP from the CUT ahead of it", shop)
            .taken("work(1, 1, 2, 4)", 1).then("cut(0, 0)", 0).then("cut(0, 1)", 4).then("trials()", 6)
            .taken("work(1, 1, 2, 3)", 1).then("cut(0, 0)", 1).then("cut(0, 1)", 4).then("trials()", 11 + 6)
            .taken("work(1, 1, 2, 0)", 1).then("cut(0, 0)", 4).then("cut(0, 1)", 4).then("trials()", 4 * 11 + 6)
            .taken("work(1, 1, 2, 9)", 1).then("cut(0, 1)", 4);
        String down = shop(1, 3, 1, 2) + ALL_BUT_9 + "wish(0, 0, 2); wish(0, 1, 2); wish(0, 2, 2)";
        promise(32, "at most STEP from the CUT ahead of it: downwards", down)
            .taken("work(1, 3, 2, 9)", 1).then("cut(0, 0)", 9).then("cut(0, 1)", 0).then("trials()", 9 * 11 + 2)
            .taken("work(1, 3, 2, 8)", 1).then("cut(0, 1)", 1).then("trials()", 9 * 11 + 3);
        String two = shop(2, 3, 1, 2) + ALL_BUT_9 + "wish(0, 0, 2); wish(0, 1, 2); wish(0, 2, 2)";
        promise(32, "(of the same KEY)", two)
            .taken("work(2, 3, 2, 0)", 1).then("cut(0, 1)", 9).then("cut(1, 0)", 0).then("cut(1, 1)", 0)
            .then("trials()", 9 * (1 + 10 + 110) + 1 + 10 + 2);
    }

    private static void cutsKeepMost() {
        promise(32, "not more than its CYLINDER's MOST: a PLAIN", shop(2, 1, 0, 1), "wish(0, 0, 1)")
            .taken("work(2, 1, 1, 9)", 1).then("heightAt(0, 0, 0)", 0).then("heightAt(0, 0, 1)", PLACE)
            .then("trials()", 3);
        promise(32, "more than its CYLINDER's MOST: a PLAIN", shop(2, 1, 0, 1), "wish(0, 0, 1); wish(1, 0, 1)")
            .asked("work(2, 1, 1, 9)", 0).then("trials()", 10 + 100);
        for (int kind = 1; kind <= 2; kind++) {
            String opens = Run.times(4, "wish(#, 0, 1)");
            promise(32, "not more than its CYLINDER's MOST: a MASTER, CORE", shop(4, 1, kind, 1), opens)
                .taken("work(4, 1, 1, 9)", 1).then("trials()", 1 + 2 + 3 + 4).then("heightAt(0, 0, 3)", 3);
            promise(32, "more than its CYLINDER's MOST: a MASTER, CORE", shop(5, 1, kind, 2), opens, "wish(4, 0, 1)")
                .taken("work(5, 1, 2, 9)", 1).then("trials()", 2 + 3 + 4 + 5 + 11 + 2)
                .then("cut(4, 0)", 1).then("cut(4, 1)", 0).then("heightAt(0, 1, 3)", 3);
            promise(32, "the unlike CUTS there", shop(5, 1, kind, 2), opens, "wish(4, 0, 1)", "work(5, 1, 2, 9)")
                .asked("heightAt(0, 0, 1)", 1).refused("heightAt(0, 0, 2)", PLACE);
            promise(32, "of all KEYS that shall OPEN it: others do not count", shop(5, 1, kind, 1), opens)
                .taken("work(5, 1, 1, 9)", 1).then("trials()", 15).then("cut(4, 0)", 4)
                .then("heightAt(0, 0, 4)", PLACE);
        }
        promise(32, "of all KEYS up to this one: a PLAIN, ahead of a KEY that need not OPEN it", shop(3, 1, 0, 1),
            "wish(0, 0, 1); wish(1, 0, 1)")
            .asked("work(3, 1, 1, 9)", 0).then("trials()", 10 + 100);
        promise(32, "of all KEYS up to this one: a MASTER, ahead of a KEY that need not OPEN it", shop(6, 1, 1, 2),
            Run.times(5, "wish(#, 0, 1)"))
            .taken("work(6, 1, 2, 9)", 1).then("trials()", 2 + 3 + 4 + 5 + 11 + 2 + 6).then("cut(4, 0)", 1)
            .then("cut(5, 0)", 0).then("cut(5, 1)", 4).then("heightAt(0, 1, 3)", 3).then("heightAt(0, 1, 4)", PLACE);
        promise(32, "MOST of a BLIND 0", shop(1, 1, 3, 1), "wish(0, 0, 1)")
            .asked("work(1, 1, 1, 9)", 0).then("trials()", 10);
        promise(32, "for each DOOR that this KEY shall OPEN: the second is a PLAIN", shop(2, 1, 1, 1),
            "cylinder(0, 1); door(); fit(1, 1); wish(0, 0, 1); wish(1, 0, 1); wish(0, 1, 1); wish(1, 1, 1)")
            .asked("work(2, 2, 1, 9)", 0).then("trials()", 110).taken("work(2, 1, 1, 9)", 1);
    }

    private static void cutsAreUnlike() {
        promise(32, "with the last CUT of a KEY: if no KEY ahead of it has the same CUTS", shop(3, 1, 1, 2))
            .taken("work(3, 1, 2, 9)", 1).then("trials()", 2 + 3 + 4).then("cut(1, 1)", 1).then("cut(2, 1)", 2);
        promise(32, "no KEY ahead of it: also not the first of six", shop(6, 1, 1, 1))
            .taken("work(6, 1, 1, 9)", 1).then("trials()", 21).then("cut(5, 0)", 5);
        promise(32, "no KEY ahead of it: those behind k do not count", "blanks(2); key(1, 0); key(1, 0)", shop(0, 1, 1,
            1))
            .taken("work(1, 1, 1, 9)", 1).then("cut(0, 0)", 0).then("cut(1, 0)", 0).then("trials()", 1);
        promise(32, "the last CUT, where all ten are taken by STEP", shop(2, 1, 1, 2))
            .taken("work(2, 1, 2, 0)", 1).then("trials()", 2 + 1 + 10 + 1 + 2).then("cut(1, 0)", 1)
            .then("cut(1, 1)", 1);
    }

    private static void nevers() {
        String shop = shop(2, 1, 1, 1) + "height(0, 0, 0, true); wish(0, 0, 2)";
        promise(32, "with the last CUT of the last KEY: if each NEVER is met", shop)
            .taken("work(2, 1, 1, 9)", 1).then("cut(0, 0)", 1).then("cut(1, 0)", 0).then("trials()", 1 + 10 + 2)
            .taken("work(1, 1, 1, 9)", 1).then("trials()", 2);
        promise(32, "a CHAMBER of the DOOR BARS: one of two will do", shop(1, 1, 1, 2), "height(0, 0, 0, true); "
            + "height(0, 1, 0, true); wish(0, 0, 2)")
            .taken("work(1, 1, 2, 9)", 1).then("cut(0, 0)", 0).then("cut(0, 1)", 1).then("trials()", 3);
        promise(32, "a CHAMBER of the DOOR BARS: EMPTY ones do not", shop(1, 1, 1, 2), "wish(0, 0, 2)")
            .asked("work(1, 1, 2, 9)", 0).then("trials()", 110);
        promise(32, "each NEVER: of two DOORS", shop(1, 2, 1, 1), "height(0, 0, 0, true); height(1, 0, 1, true); "
            + "wish(0, 0, 2); wish(0, 1, 2)")
            .taken("work(1, 2, 1, 9)", 1).then("cut(0, 0)", 2).taken("work(1, 1, 1, 9)", 1).then("cut(0, 0)", 1);
        promise(32, "a CHAMBER of the DOOR BARS: not one of the next DOOR", shop(2, 2, 1, 5),
            "height(1, 0, 9, true); wish(0, 0, 2)").asked("work(1, 2, 5, 0)", 0).then("trials()", 410);
        promise(32, "(a BLIND always does)", shop(1, 1, 3, 2), "wish(0, 0, 2)")
            .taken("work(1, 1, 2, 9)", 1).then("trials()", 2);
        promise(32, "each NEVER: of the sixth KEY and the sixth DOOR", shop(6, 6, 1, 1), "height(5, 0, 5, true); "
            + "wish(5, 5, 2)")
            .taken("work(6, 6, 1, 9)", 1).then("cut(5, 0)", 6).then("trials()", 22);
    }

    private static void neversOfDoorsThatChange() {
        String shop = shop(2, 1, 1, 1) + "wish(0, 0, 1); wish(1, 0, 2); ";
        promise(32, "BARS the KEY then: by the HEIGHTS that come", shop, "height(0, 0, 1, true)")
            .taken("work(2, 1, 1, 9)", 1).then("cut(1, 0)", 1).then("heightAt(0, 0, 0)", 0)
            .then("heightAt(0, 0, 1)", PLACE);
        promise(32, "BARS the KEY then: where it is EMPTY now", shop).taken("work(2, 1, 1, 9)", 1).then("trials()", 3);
        promise(32, "BARS the KEY then: a NEVER ahead of the OPEN", shop(2, 1, 1, 1), "wish(0, 0, 2); wish(1, 0, 1)")
            .taken("work(2, 1, 1, 9)", 1).then("cut(0, 0)", 0).then("cut(1, 0)", 1).then("heightAt(0, 0, 0)", 1);
        promise(32, "BARS the KEY then: not by one of the HEIGHTS of two KEYS", shop(3, 1, 1, 2),
            "wish(0, 0, 1); wish(1, 0, 1); wish(2, 0, 2)")
            .taken("work(3, 1, 2, 9)", 1).then("cut(2, 0)", 0).then("cut(2, 1)", 2);
    }

    private static void lentAndLostAreCut() {
        String shop = shop(3, 1, 1, 1) + "person(); lend(0, 0); lose(1); wish(0, 0, 1); wish(1, 0, 1)";
        promise(32, "KEYS that are lent or LOST are cut as others", shop)
            .taken("work(3, 1, 1, 9)", 1).then("cut(0, 0)", 0).then("cut(1, 0)", 1).then("cut(2, 0)", 2)
            .then("holder(0)", 0).then("holder(1)", LOST).then("heightAt(0, 0, 1)", 1);
        promise(32, "no BLANK is wanted, TRIES stays", shop)
            .taken("work(3, 1, 1, 9)", 1).then("told(5)", 0).then("told(6)", 3).then("told(1)", 3);
    }

    private static void heightsThen() {
        String shop = shop(3, 3, 1, 2) + "height(0, 0, 9, true); height(1, 0, 9, true); height(2, 1, 9, true); "
            + "wish(0, 0, 1); wish(2, 0, 1); wish(1, 1, 2)";
        promise(32, "has in each CHAMBER then the CUTS of the KEYS that shall OPEN it (rising, each once)", shop)
            .taken("work(3, 3, 2, 9)", 1).then("heightAt(0, 0, 0)", 0).then("heightAt(0, 0, 1)", PLACE)
            .then("heightAt(0, 1, 0)", 0).then("heightAt(0, 1, 1)", 2).then("heightAt(0, 1, 2)", PLACE);
        promise(32, "others have what they have", shop)
            .taken("work(3, 3, 2, 9)", 1).then("heightAt(1, 0, 0)", 9).then("heightAt(1, 1, 0)", NOTHING)
            .then("heightAt(2, 1, 0)", 9).then("heightAt(2, 0, 0)", NOTHING);
        promise(32, "KEYS and CYLINDERS become that: it OPENS", shop, "work(3, 3, 2, 9)")
            .asked("opens(0, 0)", 1).asked("opens(1, 0)", 0).then("at()", 1).asked("opens(2, 0)", 1)
            .asked("opens(1, 1)", 0);
    }

    private static void firstKeysAndDoorsAlone() {
        String shop = shop(3, 2, 0, 1) + "height(0, 0, 7, true); height(1, 0, 7, true); ";
        promise(32, "for the first k KEYS: the WISH of another one", shop, "wish(2, 0, 1)")
            .taken("work(2, 2, 1, 9)", 1).then("heightAt(0, 0, 0)", 7).then("cut(2, 0)", 7)
            .taken("work(3, 2, 1, 9)", 1).then("heightAt(0, 0, 0)", 2);
        promise(32, "for the first k KEYS: the NEVER of another one", shop, "wish(2, 0, 2)")
            .taken("work(2, 1, 1, 9)", 1).then("cut(2, 0)", 7);
        promise(32, "for the first d DOORS: the WISH for another one", shop, "wish(0, 1, 1); wish(1, 1, 1)")
            .taken("work(2, 1, 1, 9)", 1).then("heightAt(1, 0, 0)", 7).asked("work(2, 2, 1, 9)", 0);
        promise(32, "for the first d DOORS: the NEVER for another one", shop, "height(1, 0, 7, false); wish(0, 1, 2)")
            .taken("work(1, 1, 1, 9)", 1).asked("work(1, 2, 1, 9)", 0);
        promise(32, "a CYLINDER that is at a DOOR behind d, too", shop, "fit(1, 0); wish(0, 0, 1)")
            .taken("work(1, 1, 1, 9)", 1).then("heightAt(0, 0, 0)", 0).then("opens(0, 1)", 1);
    }

    /**
     * With STEP 8 the KEYS (3, 6), (9, 8) are the 4000th TRIAL and (3, 6), (9, 9) the 4001st: a first CUT 0 of
     * KEY 0 takes 1 + 10 + 9 * 110, 1 and 2 take 1 + 10 + 10 * 110 each, (3, 0) to (3, 5) take 1 + 6 * 111,
     * and behind (3, 6) the CUTS up to (9, 8) take 1 + 9 * 11 + 1 + 9. Each DOOR has HEIGHTS in one CHAMBER.
     */
    private static String lateShop(int highest) {
        return shop(2, 6, 1, 2) + heights(0, 0, 0, 2) + four(1, 1, 0) + heights(2, 1, 4, 5) + four(3, 0, 3)
            + heights(4, 0, 7, 8) + heights(5, 1, 6, highest);
    }

    private static String lateWishes(int one, int other) {
        return Run.times(3, "wish(" + one + ", #, 2)") + Run.times(6, "wish(" + other + ", #, 2)");
    }

    private static void lastTrial() {
        promise(32, "the 4000th TRIAL is found", lateShop(7), lateWishes(0, 1))
            .taken("work(2, 6, 2, 8)", 1).then("trials()", 4000).then("cut(0, 0)", 3).then("cut(0, 1)", 6)
            .then("cut(1, 0)", 9).then("cut(1, 1)", 8);
        promise(32, "with a 4001st TRIAL it is NOT KNOWN: then nothing changes", lateShop(8), lateWishes(0, 1))
            .asked("work(2, 6, 2, 8)", UNKNOWN).then("trials()", 4000).then("cut(0, 0)", 7).then("finding()", 0);
    }

    private static void nothingStands() {
        promise(32, "with none it is 0: then nothing changes", shop(1, 1, 0, 5), "wish(0, 0, 2)")
            .asked("work(1, 1, 5, 0)", 0).then("trials()", 10 + 4 * 100).then("cut(0, 0)", 7)
            .asked("work(1, 1, 5, 1)", 0).then("trials()", 10 * (1 + 10 + 28 + 80 + 230))
            .asked("work(1, 1, 5, 2)", UNKNOWN).then("trials()", 4000).then("cut(0, 0)", 7)
            .asked("work(1, 1, 5, 9)", UNKNOWN).then("trials()", 4000);
        promise(32, "with none it is 0: of two KEYS", shop(2, 1, 0, 2), "wish(0, 0, 1); wish(1, 0, 1)")
            .asked("work(2, 1, 2, 9)", 0).then("trials()", 10 + 100 + 100 * 10 + 100 * 10);
    }

    /** What another search found, or read, counts no more. */
    private static void searchesBehindOthers() {
        promise(32, "others have what they have: also what an earlier work() cut", shop(1, 1, 1, 1),
            "wish(0, 0, 1); work(1, 1, 1, 9); wish(0, 0, 0)")
            .taken("work(1, 1, 1, 9)", 1).then("heightAt(0, 0, 0)", 0).then("heightAt(0, 0, 1)", PLACE);
        promise(32, "a BLIND always does: one that was there no more", shop(1, 1, 3, 1),
            "wish(0, 0, 2); work(1, 1, 1, 9); cylinder(1, 1); fit(0, 1)").asked("work(1, 1, 1, 9)", 0);
        promise(32, "n CUTS: fewer than an earlier work() cut", shop(2, 1, 1, 3), "wish(0, 0, 1); work(2, 1, 3, 9)",
            "cylinder(0, 1); fit(0, 1)")
            .taken("work(2, 1, 1, 9)", 1).then("length(0)", 1).then("cut(1, 0)", 1).then("trials()", 3)
            .then("heightAt(1, 0, 0)", 0);
        promise(32, "KEYS: fewer than an earlier work() cut", shop(6, 1, 1, 1), "work(6, 1, 1, 9)", "wish(0, 0, 1)")
            .taken("work(1, 1, 1, 9)", 1).then("trials()", 1).then("heightAt(0, 0, 0)", 0)
            .then("heightAt(0, 0, 1)", PLACE).then("cut(5, 0)", 5);
        promise(32, "all KEYS are cut, behind an anew() that passed one over", shop(2, 1, 1, 1),
            "height(0, 0, 1, true); lose(0); anew(0, 2, 1, 1, 9)", "wish(0, 0, 1)")
            .taken("work(2, 1, 1, 9)", 1).then("cut(0, 0)", 0).then("cut(1, 0)", 1).then("trials()", 3);
        promise(33, "it is passed over, behind a work() that cut it", shop(2, 1, 1, 1),
            "lose(0); wish(0, 0, 1); wish(1, 0, 1); work(2, 1, 1, 9)")
            .taken("anew(0, 2, 1, 1, 9)", 1).then("cut(0, 0)", 0).then("cut(1, 0)", 1)
            .then("heightAt(0, 0, 0)", 1).then("heightAt(0, 0, 1)", PLACE).then("trials()", 2);
        promise(33, "another one is passed over", shop(3, 1, 1, 1),
            "height(0, 0, 3, true); lose(0); lose(2); anew(0, 3, 1, 1, 9)")
            .taken("anew(2, 3, 1, 1, 9)", 1).then("cut(0, 0)", 0).then("cut(1, 0)", 2).then("cut(2, 0)", 1);
    }

    private static void anewSizes() {
        String five = shop(7, 7, 1, 5) + Run.times(7, "height(#, 0, 1, true)") + "lose(0); lose(5); lose(6); ";
        promise(33, "k 1 to 6", five)
            .taken("anew(0, 1, 1, 5, 9)", 1).then("trials()", 0)
            .taken("anew(0, 6, 1, 5, 9)", 1).then("trials()", 5 + 6 + 7 + 8 + 9).refused("anew(0, 0, 1, 5, 9)", BAD)
            .refused("anew(0, 7, 1, 5, 9)", BAD).refused("anew(0, -1, 1, 5, 9)", BAD)
            .refused("anew(0, LEAST, 1, 5, 9)", BAD).refused("anew(0, GREATEST, 1, 5, 9)", BAD);
        promise(33, "d 1 to 6", five)
            .taken("anew(0, 2, 6, 5, 9)", 1).refused("anew(0, 2, 0, 5, 9)", BAD).refused("anew(0, 2, 7, 5, 9)", BAD)
            .refused("anew(0, 2, LEAST, 5, 9)", BAD).refused("anew(0, 2, GREATEST, 5, 9)", BAD);
        promise(33, "n 1 to 5", five).refused("anew(0, 2, 1, 0, 9)", BAD).refused("anew(0, 2, 1, 6, 9)", BAD)
            .refused("anew(0, 2, 1, LEAST, 9)", BAD).refused("anew(0, 2, 1, GREATEST, 9)", BAD);
        promise(33, "n 1 to 5: also if there are so many", shop(1, 1, 1, 6), "lose(0)")
            .refused("anew(0, 1, 1, 6, 9)", BAD);
        promise(33, "n 1 to 5: one", shop(2, 1, 1, 1), "height(0, 0, 1, true); lose(0)")
            .taken("anew(0, 2, 1, 1, 9)", 1).then("trials()", 1);
        promise(33, "STEP 0 to 9", five)
            .taken("anew(0, 2, 1, 5, 0)", 1).refused("anew(0, 2, 1, 5, -1)", BAD).refused("anew(0, 2, 1, 5, 10)", BAD)
            .refused("anew(0, 2, 1, 5, LEAST)", BAD).refused("anew(0, 2, 1, 5, GREATEST)", BAD);
        promise(33, "BAD: also key is none of 0 to k - 1 (whatever KEYS there are)", five)
            .taken("anew(5, 6, 1, 5, 9)", 1).refused("anew(5, 5, 1, 5, 9)", BAD).refused("anew(6, 6, 1, 5, 9)", BAD)
            .refused("anew(-1, 6, 1, 5, 9)", BAD).refused("anew(6, 7, 1, 5, 9)", BAD)
            .refused("anew(LEAST, 6, 1, 5, 9)", BAD).refused("anew(GREATEST, 6, 1, 5, 9)", BAD);
    }

    private static void anewStates() {
        String shop = shop(3, 2, 1, 2) + "height(0, 0, 1, true); height(1, 0, 1, true); lose(2); person(); lend(1, 0)";
        promise(33, "STATE: there are not so many KEYS, DOORS", shop)
            .taken("anew(2, 3, 2, 2, 9)", 1).refused("anew(2, 4, 2, 2, 9)", STATE)
            .refused("anew(2, 3, 3, 2, 9)", STATE);
        promise(33, "STATE, no BAD: a KEY of the first k that there is not", shop)
            .refused("anew(3, 4, 2, 2, 9)", STATE).refused("anew(5, 6, 2, 2, 9)", STATE)
            .refused("anew(3, 3, 2, 2, 9)", BAD);
        promise(33, "STATE, no BAD: without KEYS", "person()").refused("anew(0, 1, 1, 1, 0)", STATE);
        promise(33, "STATE: it is not LOST", shop)
            .refused("anew(0, 3, 2, 2, 9)", STATE).refused("anew(1, 3, 2, 2, 9)", STATE);
        promise(33, "STATE: it is not LOST any more", shop, "found(2)").refused("anew(2, 3, 2, 2, 9)", STATE);
        String lengths = "blanks(3); key(1, 7); key(3, 777); key(0, 0); lose(0); lose(1); lose(2); cylinder(1, 2); "
            + "door(); fit(0, 0)";
        promise(33, "STATE: it has not n CUTS", lengths)
            .refused("anew(0, 3, 1, 2, 9)", STATE).refused("anew(1, 3, 1, 2, 9)", STATE)
            .refused("anew(2, 3, 1, 2, 9)", STATE);
        promise(33, "BAD ahead of STATE", shop)
            .refused("anew(0, 3, 2, 2, 10)", BAD).refused("anew(2, 4, 2, 6, 9)", BAD)
            .refused("anew(3, 3, 3, 2, 9)", BAD);
        promise(33, "STATE ahead of what the DOORS meet", shop, "fit(0, NONE)")
            .refused("anew(0, 3, 2, 2, 9)", STATE).refused("anew(2, 4, 2, 2, 9)", STATE)
            .refused("anew(2, 3, 3, 2, 9)", STATE).refused("anew(2, 3, 2, 3, 9)", STATE)
            .refused("anew(2, 3, 2, 2, 9)", NOTHING);
    }

    private static void anewDoorByDoor() {
        String shop = shop(2, 3, 2, 2) + Run.times(3, "height(#, 0, 1, true)")
            + "lose(0); twin(0, 1); cylinder(1, 1); cylinder(1, 3); ";
        promise(33, "then as work(): NOTHING (no CYLINDER)", shop, "fit(2, NONE)")
            .refused("anew(0, 2, 3, 2, 9)", NOTHING).taken("anew(0, 2, 2, 2, 9)", 1);
        promise(33, "then as work(): KIND", shop, "fit(2, 3)")
            .refused("anew(0, 2, 3, 2, 9)", KIND).taken("anew(0, 2, 2, 2, 9)", 1);
        promise(33, "then as work(): NOTHING (OUT)", shop, "takeCore(2)")
            .refused("anew(0, 2, 3, 2, 9)", NOTHING).taken("anew(0, 2, 2, 2, 9)", 1);
        promise(33, "then as work(): STATE (not n CHAMBERS)", shop, "fit(2, 4)")
            .refused("anew(0, 2, 3, 2, 9)", STATE).taken("anew(0, 2, 2, 2, 9)", 1);
        promise(33, "then as work(): STATE (not n CHAMBERS)", shop, "fit(2, 5)").refused("anew(0, 2, 3, 2, 9)", STATE);
        promise(33, "then as work(): STATE (the CYLINDER of one ahead)", shop, "fit(2, 0)")
            .refused("anew(0, 2, 3, 2, 9)", STATE).taken("anew(0, 2, 2, 2, 9)", 1);
        promise(33, "then as work(): DOOR by DOOR", shop, "fit(0, 4); fit(1, NONE)")
            .refused("anew(0, 2, 3, 2, 9)", STATE);
        promise(33, "then as work(): DOOR by DOOR", shop, "fit(0, 3); fit(1, NONE)")
            .refused("anew(0, 2, 3, 2, 9)", KIND);
        promise(33, "also without other KEYS", shop, "fit(0, NONE)").refused("anew(0, 1, 1, 2, 9)", NOTHING);
    }

    private static void lostKeepsItsCuts() {
        String shop = shop(3, 1, 1, 2) + "height(0, 0, 1, true); ";
        promise(33, "it keeps its CUTS, and it is passed over: the first", shop, "lose(0)")
            .taken("anew(0, 3, 1, 2, 9)", 1).then("cut(0, 0)", 7).then("cut(0, 1)", 7).then("cut(1, 1)", 0)
            .then("cut(2, 1)", 1).then("trials()", 2 + 3).then("holder(0)", LOST);
        promise(33, "it keeps its CUTS, and it is passed over: one between", shop, "lose(1)")
            .taken("anew(1, 3, 1, 2, 9)", 1).then("cut(1, 0)", 7).then("cut(0, 1)", 0).then("cut(2, 1)", 1)
            .then("trials()", 2 + 3);
        promise(33, "it keeps its CUTS, and it is passed over: the last", shop, "lose(2)")
            .taken("anew(2, 3, 1, 2, 9)", 1).then("cut(2, 1)", 7).then("cut(0, 1)", 0).then("cut(1, 1)", 1)
            .then("trials()", 2 + 3);
        promise(33, "other KEYS that are LOST are cut", shop, "lose(0); lose(1)")
            .taken("anew(0, 3, 1, 2, 9)", 1).then("cut(1, 0)", 0).then("holder(1)", LOST).then("trials()", 2 + 3);
        promise(33, "other KEYS may have other lengths", "blanks(2); key(18, 7); key(1, 7); lose(1)", shop(0, 1, 1, 1),
            "height(0, 0, 1, true)")
            .taken("anew(1, 2, 1, 1, 9)", 1).then("length(0)", 1).then("cut(0, 0)", 0).then("cut(1, 0)", 7);
        promise(33, "its CUTS need not keep STEP", "blanks(2); key(2, 90); key(2, 11); lose(0)", shop(0, 1, 1, 2),
            "height(0, 0, 1, true)")
            .taken("anew(0, 2, 1, 2, 0)", 1).then("cut(0, 1)", 9).then("cut(1, 0)", 0);
    }

    private static void lostShallOpenNone() {
        String shop = shop(2, 2, 1, 1) + "height(0, 0, 7, true); height(1, 0, 3, true); wish(0, 0, 1); wish(0, 1, 1); "
            + "wish(1, 0, 1); lose(0)";
        promise(33, "it shall OPEN no DOOR: its CUTS are no HEIGHTS then", shop)
            .taken("anew(0, 2, 2, 1, 9)", 1).then("heightAt(0, 0, 0)", 0).then("heightAt(0, 0, 1)", PLACE)
            .then("opens(0, 0)", 0);
        promise(33, "it shall OPEN no DOOR: one that it alone should OPEN has what it has", shop)
            .taken("anew(0, 2, 2, 1, 9)", 1).then("heightAt(1, 0, 0)", 3).then("heightAt(1, 0, 1)", PLACE);
        promise(33, "WISHES stay as they are", shop)
            .taken("anew(0, 2, 2, 1, 9)", 1).then("wish(0, 0, 0)", 1).then("wish(0, 1, 0)", 1).then("wish(1, 0, 0)", 1)
            .then("wish(1, 1, 0)", 0);
        promise(33, "it shall OPEN no DOOR: it does not count for MOST", shop(2, 1, 0, 1), "height(0, 0, 7, true); "
            + "wish(0, 0, 1); wish(1, 0, 1); lose(0)")
            .taken("anew(0, 2, 1, 1, 9)", 1).then("heightAt(0, 0, 0)", 0).then("trials()", 1);
    }

    private static void lostShallNever() {
        for (int what = 0; what <= 2; what++) {
            String shop = "blanks(2); key(1, 0); key(1, 0); lose(0);" + shop(0, 1, 1, 1) + "height(0, 0, 0, true); "
                + "wish(0, 0, " + what + "); ";
            promise(33, "NEVER one that it WOULD OPEN now, whatever its WISHES are", shop, "wish(1, 0, 1)")
                .taken("anew(0, 2, 1, 1, 9)", 1).then("cut(1, 0)", 1).then("opens(0, 0)", 0).then("trials()", 2);
            promise(33, "NEVER one that it WOULD OPEN now: which no other KEY shall OPEN", shop)
                .asked("anew(0, 2, 1, 1, 9)", 0).then("trials()", 10).then("cut(1, 0)", 0).then("opens(0, 0)", 1);
        }
        String two = "blanks(2); key(1, 0); key(1, 5); lose(0);" + shop(0, 2, 1, 1) + "height(0, 0, 3, true); ";
        promise(33, "one that it WOULD not OPEN now", two).taken("anew(0, 2, 1, 1, 9)", 1).then("cut(1, 0)", 1);
        promise(33, "one that it WOULD OPEN now, behind d", two)
            .taken("anew(0, 2, 1, 1, 9)", 1).asked("anew(0, 2, 2, 1, 9)", 0);
        promise(33, "the NEVER of other KEYS", two, "height(1, 0, 1, true); wish(1, 1, 2)")
            .taken("anew(0, 2, 2, 1, 9)", 1).then("cut(1, 0)", 2).then("trials()", 3);
        promise(33, "NEVER, for a BLIND", "blanks(2); key(1, 0); key(1, 5); lose(0);", shop(0, 1, 3, 1))
            .taken("anew(0, 2, 1, 1, 9)", 1);
    }

    /**
     * KEY 2 may not begin with 0 (NEVER DOOR 1), nor be as the LOST one, (1, 0): so it is (1, 1), and DOOR 0, which
     * the LOST one would not OPEN now, lets it pass then. The LOST one's own NEVER for DOOR 0 does not keep it out.
     */
    private static void lostHasNoWishes() {
        for (int what = 0; what <= 2; what++) {
            String shop = "blanks(3); key(2, 1); key(2, 77); key(2, 77); lose(0); " + shop(0, 2, 1, 2)
                + "height(0, 0, 9, true); height(1, 0, 0, true); wish(1, 0, 1); wish(2, 0, 1); wish(2, 1, 2); "
                + "wish(0, 0, " + what + ")";
            promise(33, "NEVER one that it WOULD OPEN now, whatever its WISHES are: " + what, shop)
                .taken("anew(0, 3, 2, 2, 9)", 1).then("trials()", 2 + 11 + 3).then("cut(2, 0)", 1).then("cut(2, 1)", 1)
                .then("opens(0, 0)", 1).then("wish(0, 0, 0)", what);
        }
    }

    private static void noOtherHasItsCuts() {
        String shop = "blanks(3); key(2, 0); key(2, 0); key(2, 10);" + shop(0, 1, 1, 2) + "height(0, 0, 9, true); ";
        promise(33, "no other KEY (as soon as its last CUT is tried) may have its CUTS: one behind it", shop, "lose(0)")
            .taken("anew(0, 2, 1, 2, 9)", 1).then("cut(1, 0)", 0).then("cut(1, 1)", 1).then("trials()", 3);
        promise(33, "no other KEY may have its CUTS: one ahead of it", shop, "lose(1)")
            .taken("anew(1, 2, 1, 2, 9)", 1).then("cut(0, 0)", 0).then("cut(0, 1)", 1).then("trials()", 3);
        promise(33, "no other KEY may have its CUTS: the second of them", shop, "lose(2)")
            .taken("anew(2, 3, 1, 2, 9)", 1).then("cut(0, 1)", 0).then("cut(1, 1)", 2).then("trials()", 2 + 4);
    }

    private static void lostAlone() {
        String shop = shop(1, 2, 1, 1) + "height(0, 0, 3, true); height(1, 0, 7, true); lose(0); ";
        promise(33, "without other KEYS: 1 if each NEVER is met", shop)
            .taken("anew(0, 1, 1, 1, 9)", 1).then("trials()", 0).then("cut(0, 0)", 7);
        promise(33, "without other KEYS: else 0", shop).asked("anew(0, 1, 2, 1, 9)", 0).then("trials()", 0);
        promise(33, "without other KEYS: its OPEN counts for nothing", shop, "wish(0, 0, 1)")
            .taken("anew(0, 1, 1, 1, 9)", 1).then("heightAt(0, 0, 0)", 3);
        promise(33, "without other KEYS: EMPTY", shop, "height(0, 0, 3, false)").asked("anew(0, 1, 1, 1, 9)", 0);
        promise(33, "without other KEYS: behind a search", shop, "work(1, 1, 1, 9)", "height(0, 0, 0, true)")
            .asked("anew(0, 1, 1, 1, 9)", 0).then("trials()", 0);
        promise(33, "without other KEYS: a BLIND", shop(1, 1, 3, 1), "lose(0)").taken("anew(0, 1, 1, 1, 9)", 1);
    }

    private static void lastTrialOfAnew() {
        String lost = "blanks(1); key(2, 99); lose(";
        promise(33, "the 4000th TRIAL is found", lateShop(7), lateWishes(0, 1), lost + "2)")
            .taken("anew(2, 3, 6, 2, 8)", 1).then("trials()", 4000).then("cut(1, 1)", 8).then("cut(2, 1)", 9);
        promise(33, "with a 4001st TRIAL it is NOT KNOWN: then nothing changes", lateShop(8), lateWishes(0, 1), lost
            + "2)")
            .asked("anew(2, 3, 6, 2, 8)", UNKNOWN).then("trials()", 4000).then("cut(1, 1)", 7).then("cut(2, 1)", 9);
        promise(33, "the 4000th TRIAL is found: the first KEY is passed over", "blanks(3); key(2, 99); lose(0)",
            lateShop(7), lateWishes(1, 2))
            .taken("anew(0, 3, 6, 2, 8)", 1).then("trials()", 4000).then("cut(1, 1)", 6).then("cut(2, 1)", 8);
    }

    private static void trials() {
        promise(34, "0 at first", "person()").asked("trials()", 0);
        String shop = shop(2, 1, 1, 2) + "lose(1); work(2, 1, 2, 9); ";
        promise(34, "of the latest work()", shop).asked("trials()", 5);
        promise(34, "of the latest that was not refused", shop, "work(0, 1, 2, 9) = -2; work(3, 1, 2, 9) = -3; "
            + "anew(2, 2, 1, 2, 9) = -2; " + "anew(0, 2, 1, 2, 9) = -3; work(1, 1, 1, 9) = -3")
            .asked("trials()", 5);
        promise(34, "of the latest that met no FINDING", shop, "fit(0, NONE); work(2, 1, 2, 9) = -11; "
            + "anew(1, 2, 1, 2, 9) = -11; " + "twin(0, 0); fit(0, 1); work(2, 1, 2, 9) = -13")
            .asked("trials()", 5);
        promise(34, "of the latest anew()", shop, "height(0, 0, 7, true); anew(1, 2, 1, 2, 9)").asked("trials()", 2);
        promise(34, "0 with nothing to try", shop, "found(1); lose(0); height(0, 0, 7, true); anew(0, 1, 1, 2, 9)")
            .asked("trials()", 0);
        promise(34, "4000 with UNKNOWN", shop(1, 1, 1, 5), "wish(0, 0, 2); work(1, 1, 5, 9) = -5")
            .asked("trials()", 4000);
        promise(34, "of one that answers 0", shop, "wish(0, 0, 2); work(1, 1, 2, 9)").asked("trials()", 110);
        promise(34, "undo() leaves it", shop, "undo()", "blanks(0)").asked("trials()", 5);
        promise(34, "no other call changes it", shop, "count(0, 2, 1); carry(1); closed(1); endangered(0); turn(0, 0); "
            + "opens(0, 0); weight(0)")
            .asked("trials()", 5).asked("holder(0)", NONE);
    }
}
