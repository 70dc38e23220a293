/** Promises 35 to 38: the sentences that name a boundary case. */
public final class AskBoundsTest {
    private static final Due DUE = new Due("AskBoundsTest");
    private static final int BAD = Bounds.BAD, NOTHING = Bounds.NOTHING;
    private static final int ALL = Integer.MAX_VALUE;

    public static void main(String[] args) {
        countSizes();
        countSteps();
        countRows();
        countsBeyondInt();
        countOfHalves();
        countMeetsNothing();
        countRefusals();
        carryFewest();
        carryLeast();
        asksBehindOthers();
        carryFirstKeys();
        carryBits();
        closed();
        closedBits();
        endangered();
        wouldOpen();
        DUE.end();
    }

    private static Bounds promise(int number, String sentence, String... shop) {
        return new Bounds(DUE, "promise " + number + ": " + sentence, shop);
    }

    private static void countSizes() {
        String shop = "cylinder(1, 3); " + Run.times(40, "door()") + "fit(39, 0)";
        promise(35, "rows of n CUTS (0 to 18)", shop)
            .asked("count(39, 0, 9)", 1).asked("count(39, 1, 9)", 10).asked("count(39, 9, 9)", 1000000000L)
            .asked("count(39, 10, 9)", 10000000000L).asked("count(39, 18, 9)", 1000000000000000000L);
        promise(35, "BAD: n", shop)
            .refused("count(39, -1, 9)", BAD).refused("count(39, 19, 9)", BAD)
            .refused("count(39, LEAST, 9)", BAD).refused("count(39, GREATEST, 9)", BAD);
        promise(35, "a row without CUTS, and a CYLINDER without CHAMBERS", "cylinder(0, 0); door(); fit(0, 0)")
            .asked("count(0, 0, 0)", 1).asked("count(0, 1, 0)", 10);
    }

    private static void countSteps() {
        String shop = "cylinder(1, 3); door(); fit(0, 0)";
        promise(35, "neighbours at most STEP (0 to 9) apart", shop)
            .asked("count(0, 1, 0)", 10).asked("count(0, 2, 0)", 10).asked("count(0, 18, 0)", 10)
            .asked("count(0, 2, 1)", 28).asked("count(0, 3, 1)", 80).asked("count(0, 2, 8)", 98)
            .asked("count(0, 2, 9)", 100);
        promise(35, "BAD: STEP", shop)
            .refused("count(0, 2, -1)", BAD).refused("count(0, 2, 10)", BAD)
            .refused("count(0, 0, -1)", BAD).refused("count(0, 0, 10)", BAD)
            .refused("count(0, 2, LEAST)", BAD).refused("count(0, 2, GREATEST)", BAD);
        promise(35, "at most STEP apart: as far, and farther", shop, "height(0, 0, 2, true); height(0, 1, 6, true)")
            .asked("count(0, 2, 4)", 1).asked("count(0, 2, 3)", 0).asked("count(0, 3, 4)", 8);
        promise(35, "at most STEP apart: downwards", shop, "height(0, 0, 9, true); height(0, 1, 0, true)")
            .asked("count(0, 2, 9)", 1).asked("count(0, 2, 8)", 0);
        promise(35, "at most STEP apart: by way of an EMPTY CHAMBER", shop, "height(0, 0, 0, true); "
            + "height(0, 2, 4, true)")
            .asked("count(0, 3, 2)", 1).asked("count(0, 3, 1)", 0).asked("count(0, 3, 3)", 3);
    }

    private static void countRows() {
        String shop = "cylinder(1, 18); door(); fit(0, 0); height(0, 2, 0, true); height(0, 2, 9, true)";
        promise(35, "a row without a CUT at a CHAMBER that has HEIGHTS would not", shop)
            .asked("count(0, 2, 9)", 0).asked("count(0, 0, 9)", 0).asked("count(0, 3, 9)", 200);
        promise(35, "a row without a CUT at a CHAMBER that is EMPTY would", shop)
            .asked("count(0, 4, 9)", 2000).asked("count(0, 17, 9)", 20000000000000000L);
        promise(35, "at the last CHAMBER", shop, "height(0, 17, 5, true)")
            .asked("count(0, 17, 9)", 0).asked("count(0, 18, 9)", 20000000000000000L);
        promise(35, "a BLIND", "cylinder(3, 0); cylinder(3, 3); door(); door(); fit(0, 0); fit(1, 1)")
            .asked("count(0, 0, 0)", 0).asked("count(0, 18, 9)", 0).asked("count(1, 3, 9)", 0);
        promise(35, "no KEY is wanted, nor a BLANK", "cylinder(0, 1); door(); fit(0, 0); height(0, 0, 4, true)")
            .asked("count(0, 1, 9)", 1);
    }

    /** Counts that are -12, -4 and -2 in the low half of a long: none of them is a FINDING or a refusal. */
    private static void countsBeyondInt() {
        promise(35, "long: as PLACE in an int", row("04", 0, "09", 4, "17", 7, "2", 11, "9", 14))
            .asked("count(0, 18, 6)", 4496830758900L);
        promise(35, "long: as FULL in an int", row("247", 4, "0", 5, "03", 9, "18", 12))
            .asked("count(0, 14, 5)", 4294967292L);
        promise(35, "long: as BAD in an int", row("02", 4, "6", 7, "037", 12, "38", 13))
            .asked("count(0, 18, 3)", 137438953470L);
    }

    /** A DOOR whose MASTER has HEIGHTS, a figure each, in the CHAMBERS that are told behind them. */
    private static String row(Object... heightsAndChambers) {
        StringBuilder shop = new StringBuilder("cylinder(1, 18); door(); fit(0, 0); ");
        for (int i = 0; i < heightsAndChambers.length; i += 2) {
            for (char height : ((String) heightsAndChambers[i]).toCharArray()) {
                shop.append("height(0, " + heightsAndChambers[i + 1] + ", " + height + ", true); ");
            }
        }
        return shop.toString();
    }

    private static void countOfHalves() {
        String shop = "cylinder(1, 2); cylinder(1, 3); twin(0, 1); twin(0, 0); door(); door(); fit(0, 2); fit(1, 3); "
            + "height(0, 0, 3, true); height(0, 0, 5, true); height(1, 0, 5, true); height(1, 0, 7, true)";
        promise(35, "both halves of a DOUBLE", shop)
            .asked("count(0, 1, 9)", 1).asked("count(0, 2, 9)", 10).asked("count(1, 1, 9)", 2)
            .asked("count(0, 0, 9)", 0);
        promise(35, "too short for the second half alone", shop, "height(1, 2, 5, true)")
            .asked("count(0, 2, 9)", 0).asked("count(0, 3, 9)", 10).asked("count(0, 3, 0)", 1);
        promise(35, "nothing lets pass both halves", shop, "height(0, 0, 5, false)").asked("count(0, 1, 9)", 0);
    }

    private static void countMeetsNothing() {
        String shop = "cylinder(2, 1); cylinder(3, 0); cylinder(0, 2); height(2, 1, 4, true); " + Run.times(9, "door()")
            + "twin(NONE, 2); twin(2, NONE); twin(NONE, NONE); twin(1, NONE); twin(0, 2); twin(2, 0); twin(1, 0); "
            + "takeCore(0); " + "fit(1, 0); fit(2, 3); fit(3, 4); fit(4, 5); fit(5, 6); fit(6, 7); fit(7, 8); "
            + "fit(8, 9)";
        promise(35, "NOTHING: no CYLINDER", shop).refused("count(0, 1, 9)", NOTHING).refused("count(0, 0, 0)", NOTHING);
        promise(35, "NOTHING: OUT", shop).refused("count(1, 1, 9)", NOTHING);
        promise(35, "NOTHING: half a DOUBLE", shop)
            .refused("count(2, 2, 9)", NOTHING).refused("count(3, 2, 9)", NOTHING).refused("count(4, 2, 9)", NOTHING);
        promise(35, "NOTHING: half a DOUBLE, also if no KEY could OPEN the other one", shop)
            .refused("count(5, 2, 9)", NOTHING).refused("count(3, 1, 9)", NOTHING).refused("count(2, 1, 9)", NOTHING);
        promise(35, "NOTHING: OUT, of both halves", shop)
            .refused("count(6, 2, 9)", NOTHING).refused("count(7, 2, 9)", NOTHING);
        promise(35, "NOTHING: OUT, also if no KEY could OPEN the other one", shop)
            .refused("count(8, 1, 9)", NOTHING).refused("count(6, 1, 9)", NOTHING).refused("count(7, 1, 9)", NOTHING);
        promise(35, "BAD ahead of NOTHING", shop)
            .refused("count(0, 19, 9)", BAD).refused("count(1, 1, 10)", BAD).refused("count(2, -1, 0)", BAD);
    }

    private static void countRefusals() {
        promise(35, "BAD: a DOOR", "cylinder(0, 1); door(); fit(0, 0)")
            .refused("count(-1, 1, 1)", BAD).refused("count(1, 1, 1)", BAD)
            .refused("count(LEAST, 1, 1)", BAD).refused("count(GREATEST, 1, 1)", BAD);
        promise(35, "AT, TRACE stay", "blanks(1); key(1, 1); cylinder(3, 1); door(); fit(0, 0); turn(0, 0)")
            .asked("count(0, 1, 1)", 0);
    }

    /** KEY i has the CUT i; the DOORS' one CHAMBER has the HEIGHTS that are told, a figure each. */
    private static String shop(int keys, String... heights) {
        StringBuilder shop = new StringBuilder("blanks(20); " + Run.times(keys, "key(1, #)"));
        for (int door = 0; door < heights.length; door++) {
            shop.append("cylinder(1, 1); door(); fit(" + door + ", " + door + ");");
            for (char height : heights[door].toCharArray()) {
                shop.append("height(" + door + ", 0, " + height + ", true);");
            }
        }
        return shop.toString();
    }

    private static void carryFewest() {
        promise(36, "the fewest, of none", "person()").asked("carry(0)", 0);
        promise(36, "no DOOR is told", shop(3, "0", "1")).asked("carry(0)", 0);
        promise(36, "without KEYS", shop(0, "0", "")).asked("carry(3)", 0);
        promise(36, "all DOORS that any of them WOULD OPEN: none", shop(3, "9", "8")).asked("carry(3)", 0);
        promise(36, "all DOORS that any of them WOULD OPEN: others are left out", shop(3, "9", "2", "1"))
            .asked("carry(7)", 6).asked("carry(1)", 0);
        promise(36, "the fewest: one for all, though lower ones would do, too", shop(4, "03", "13", "23"))
            .asked("carry(7)", 8).asked("carry(3)", 8).asked("carry(1)", 1).asked("carry(4)", 4);
        promise(36, "the fewest: two, where the one that OPENS most is none of them", shop(5, "04", "04", "14", "14",
            "0", "1"))
            .asked("carry(63)", 3);
        promise(36, "LOST ones too", shop(2, "1"), "lose(1)").asked("carry(1)", 2);
        promise(36, "lent ones too", shop(2, "1"), "person(); lend(1, 0)").asked("carry(1)", 2);
    }

    private static void carryLeast() {
        promise(36, "of several such the least as a row of bits: one KEY", shop(3, "12")).asked("carry(1)", 2);
        promise(36, "of several such the least as a row of bits (KEY 0 the lowest)", shop(4, "03", "12"))
            .asked("carry(3)", 3);
        promise(36, "the least: 0110 is less than 1001", shop(4, "02", "13", "012"))
            .asked("carry(3)", 3).asked("carry(7)", 3);
        promise(36, "the least: 0110 is less than 1001", shop(4, "13", "02", "23")).asked("carry(7)", 6);
        promise(36, "a KEY that OPENS EMPTY ones", shop(1, "", "", "5")).asked("carry(7)", 1);
    }

    /** What was found for other KEYS, DOORS and CYLINDERS counts no more. */
    private static void asksBehindOthers() {
        String shop = shop(3, "01", "12", "2") + "carry(7) = 5; closed(7); endangered(2); ";
        promise(36, "behind another carry()", shop).asked("carry(3)", 2).asked("carry(6)", 4).asked("carry(1)", 1);
        promise(36, "behind another carry(): a DOOR has no CYLINDER", shop, "fit(0, NONE); fit(1, NONE)")
            .asked("carry(7)", 4).asked("closed(7)", 3).asked("endangered(2)", 4);
        promise(36, "behind another carry(): a KEY is undone",
            "blanks(1); cylinder(0, 1); door(); fit(0, 0); key(1, 1); carry(1) = 1; undo(); person()")
            .asked("carry(1)", 0).asked("closed(1)", 1);
        promise(35, "behind another count()", "cylinder(1, 3); door(); fit(0, 0); height(0, 1, 4, true)",
            "count(0, 18, 9); count(0, 2, 0); height(0, 1, 4, false)")
            .asked("count(0, 2, 9)", 100).asked("count(0, 3, 0)", 10);
    }

    private static void carryFirstKeys() {
        String own = "blanks(15); " + Run.times(14, "key(2, #); cylinder(0, 2); door(); fit(#, #)")
            + Run.times(10, "height(#, 0, #, true); height(#, 1, 0, true)")
            + Run.times(4, "height(1#, 0, #, true); height(1#, 1, 1, true)");
        promise(36, "of the first 14 KEYS: all", own).asked("carry(16383)", 16383).asked("closed(16383)", 0);
        String fifteen = "blanks(15); " + Run.times(13, "key(0, 0)") + "key(1, 7); key(1, 8); cylinder(0, 1); "
            + "cylinder(0, 1); " + "door(); door(); fit(0, 0); fit(1, 1); height(0, 0, 7, true); height(1, 0, 8, true)";
        promise(36, "of the first 14 KEYS: the 14th, and not the 15th", fifteen)
            .asked("carry(1)", 1 << 13).asked("carry(2)", 0).asked("carry(3)", 1 << 13);
        promise(37, "none of the first 14 KEYS: the 14th, and not the 15th", fifteen)
            .asked("closed(1)", 0).asked("closed(2)", 2).asked("closed(3)", 2);
        promise(38, "a KEY: also the 15th", fifteen)
            .asked("endangered(13)", 1).asked("endangered(14)", 2).asked("endangered(0)", 0);
    }

    private static void carryBits() {
        promise(36, "BAD: a bit of no DOOR: there is none", "blanks(1); key(0, 0)")
            .refused("carry(1)", BAD).asked("carry(0)", 0);
        String key = "blanks(1); key(0, 0); cylinder(0, 1); ";
        promise(36, "BAD: a bit of no DOOR: the last one, and the next", key + Run.times(3, "door()") + "fit(2, 0)")
            .asked("carry(4)", 1).asked("carry(7)", 1).refused("carry(8)", BAD).refused("carry(15)", BAD)
            .refused("carry(GREATEST)", BAD);
        promise(36, "bit 30 with 30 DOORS", key + Run.times(30, "door()") + "fit(29, 0)")
            .asked("carry(536870912)", 1).refused("carry(1073741824)", BAD).refused("carry(GREATEST)", BAD)
            .asked("carry(1073741823)", 1);
        promise(36, "bit 30 with 31 DOORS", key + Run.times(31, "door()") + "fit(30, 0)")
            .asked("carry(1073741824)", 1).asked("carry(GREATEST)", 1).asked("carry(1073741823)", 0);
        promise(36, "told by bits (of 0 to 30): with 32 and 40 DOORS", key + Run.times(32, "door()") + "fit(31, 0)")
            .asked("carry(GREATEST)", 0);
        promise(36, "told by bits (of 0 to 30): with 40 DOORS", key + Run.times(40, "door()") + "fit(30, 0); "
            + "fit(39, 0)")
            .asked("carry(GREATEST)", 1);
        promise(36, "BAD: below 0", key + Run.times(32, "door()"))
            .refused("carry(-1)", BAD).refused("carry(LEAST)", BAD);
        promise(36, "BAD: below 0, without DOORS", "person()").refused("carry(-1)", BAD).refused("carry(LEAST)", BAD);
    }

    private static void closed() {
        promise(37, "without KEYS", shop(0, "0", "")).asked("closed(3)", 3).asked("closed(0)", 0);
        promise(37, "those that none WOULD OPEN, of those that are told", shop(2, "0", "5", "1", "", "9"))
            .asked("closed(31)", 18).asked("closed(13)", 0).asked("closed(2)", 2).asked("closed(0)", 0);
        promise(37, "a DOOR without a CYLINDER", shop(2, "0", ""), "fit(1, NONE)").asked("closed(3)", 2);
        promise(37, "LOST ones too", shop(1, "0"), "lose(0)").asked("closed(1)", 0);
    }

    private static void closedBits() {
        promise(37, "BAD as carry(): there is no DOOR", "person()")
            .asked("closed(0)", 0).refused("closed(1)", BAD).refused("closed(-1)", BAD).refused("closed(LEAST)", BAD);
        promise(37, "BAD as carry(): the last one, and the next", Run.times(3, "door()"))
            .asked("closed(4)", 4).asked("closed(7)", 7).refused("closed(8)", BAD).refused("closed(15)", BAD);
        promise(37, "bit 30 with 30 DOORS", Run.times(30, "door()"))
            .asked("closed(1073741823)", 1073741823).refused("closed(1073741824)", BAD);
        promise(37, "bit 30 with 31 DOORS", Run.times(31, "door()"))
            .asked("closed(GREATEST)", ALL).asked("closed(1073741824)", 1073741824);
        promise(37, "with 32 DOORS", Run.times(32, "door()"))
            .asked("closed(GREATEST)", ALL).refused("closed(LEAST)", BAD);
        promise(37, "with 40 DOORS", Run.times(40, "door()"))
            .asked("closed(GREATEST)", ALL).asked("closed(255)", 255).refused("closed(-1)", BAD);
    }

    private static void endangered() {
        String shop = "blanks(2); key(0, 0); key(0, 0); cylinder(0, 1); ";
        promise(38, "no DOOR", shop).asked("endangered(0)", 0);
        promise(38, "DOORS by bits: the first", shop + "door(); fit(0, 0)").asked("endangered(1)", 1);
        promise(38, "of 0 to 30: the last", shop + Run.times(31, "door()") + "fit(30, 0)")
            .asked("endangered(0)", 1 << 30);
        promise(38, "of 0 to 30: those behind are left out", shop + Run.times(40, "door()") + "fit(31, 0); fit(32, 0); "
            + "fit(39, 0)")
            .asked("endangered(0)", 0);
        promise(38, "of 0 to 30: all", shop + Run.times(40, "door(); fit(#, 0)")).asked("endangered(0)", ALL);
        promise(38, "a KEY that is LOST", shop + "door(); fit(0, 0); lose(0)").asked("endangered(0)", 1);
        promise(38, "BAD", shop)
            .refused("endangered(-1)", BAD).refused("endangered(2)", BAD)
            .refused("endangered(LEAST)", BAD).refused("endangered(GREATEST)", BAD);
    }

    /** KEY 0 has one CUT. DOORS: one that it OPENS, one too long, half a DOUBLE, OUT, a BLIND, without a CYLINDER. */
    private static void wouldOpen() {
        String shop = "blanks(1); key(1, 4); cylinder(1, 1); cylinder(1, 2); twin(0, NONE); cylinder(2, 0); "
            + "cylinder(3, 0); " + "height(0, 0, 4, true); height(1, 1, 4, true); takeCore(3); " + Run.times(6,
            "door()") + Run.times(5, "fit(#, #)") + "turn(0, 4); cut(0, 1) = -12";
        promise(36, "WOULD OPEN (a FINDING: not; without a CYLINDER: not); AT, TRACE, FINDINGS stay", shop)
            .asked("carry(63)", 1).asked("carry(62)", 0);
        promise(37, "WOULD OPEN (a FINDING: not; without a CYLINDER: not); AT, TRACE, FINDINGS stay", shop)
            .asked("closed(63)", 62);
        promise(38, "WOULD OPEN (a FINDING: not; without a CYLINDER: not); AT, TRACE, FINDINGS stay", shop)
            .asked("endangered(0)", 1);
    }
}
